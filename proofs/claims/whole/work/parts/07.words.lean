theorem inG_of (ws : List Cond) (ps : List Nat) (hp : ws = ps.filterMap (fun i => tables_1[i]?)) (hg : ws.all goodWord = true) : ∀ w ∈ ws, w ∈ gtbl := fun w hw => by
  have h1 := List.all_eq_true.mp hg w hw
  rw [hp] at hw
  obtain ⟨i, -, hi⟩ := List.mem_filterMap.mp hw
  exact g_tb i hi h1
set_option maxRecDepth 20000 in
theorem inG_X0 : ∀ w ∈ u_ws RX0 TX0 16, w ∈ gtbl := inG_of _ [112, 114, 116, 118, 120, 122, 124, 126, 128, 130, 132, 134, 136, 138, 140, 142] (by decide +kernel) (by decide +kernel)
set_option maxRecDepth 20000 in
theorem inG_X1 : ∀ w ∈ u_ws RX1 TX1 3, w ∈ gtbl := inG_of _ [31, 33, 35] (by decide +kernel) (by decide +kernel)
set_option maxRecDepth 20000 in
theorem inG_X2 : ∀ w ∈ u_ws RX2 TX2 4, w ∈ gtbl := inG_of _ [49, 51, 53, 55] (by decide +kernel) (by decide +kernel)
set_option maxRecDepth 20000 in
theorem inG_X3 : ∀ w ∈ u_ws RX3 TX3 2, w ∈ gtbl := inG_of _ [66, 68] (by decide +kernel) (by decide +kernel)
set_option maxRecDepth 20000 in
theorem inG_X4 : ∀ w ∈ u_ws RX4 TX4 7, w ∈ gtbl := inG_of _ [152, 154, 156, 158, 160, 162, 164] (by decide +kernel) (by decide +kernel)
set_option maxRecDepth 20000 in
theorem inG_X5 : ∀ w ∈ u_ws RX5 TX5 34, w ∈ gtbl := inG_of _ [581, 583, 585, 587, 589, 591, 593, 595, 597, 599, 601, 603, 605, 607, 609, 611, 613, 615, 617, 619, 621, 623, 625, 627, 629, 631, 633, 635, 637, 639, 641, 643, 645, 647] (by decide +kernel) (by decide +kernel)
section FLD
variable {Out : Type} {X : CX} {Qf : Out → State → Prop} {cc : ByteArray} {nL k n : Nat} {ret : Option FieldType} {rm : Room} {tys : List (ClassId × FieldType)} {F : Option Out} {ws ws' : va_W} {lv : List (Nat × Value)} {pc : Nat} {st : List Value}
theorem kf_X1_9 : Cond.fieldLink RX1 9 (TX1 0).1 (TX1 0).2.1 (TX1 0).2.2.1 ∈ gtbl := g_tb 25 (by decide +kernel) (by decide +kernel)
theorem gf_X1_9 (C : Cx X RX1 cc nL ret rm tys) (q0 : Nat) {a : Nat} {fs : List Value} {v : Value} (he : ws[q0]? = some (a, .inr (1, fs))) (hv : fs[0]? = some v) (hd : decode cc pc = .ok (.getfield 9, 3)) (K : JR X Qf nL k n F ws lv (pc + 3) (v :: st)) : JR X Qf nL k n F ws lv pc (.ref a :: st) := r_get C inG_X1 0 (by decide) rfl kf_X1_9 q0 he hv hd K
theorem kf_X2_71 : (RX2, 71, (TX1 0).1, (TX1 0).2.1, (TX1 0).2.2.1, "QuietDuty") ∈ nestF := List.mem_of_getElem? (i := 0) rfl
theorem gf_X2_71 (C : Cx X RX2 cc nL ret rm tys) (q0 : Nat) {a : Nat} {fs : List Value} {v : Value} (he : ws[q0]? = some (a, .inr (1, fs))) (hv : fs[0]? = some v) (hd : decode cc pc = .ok (.getfield 71, 3)) (K : JR X Qf nL k n F ws lv (pc + 3) (v :: st)) : JR X Qf nL k n F ws lv pc (.ref a :: st) := r_getN C inG_X1 0 (by decide) rfl kf_X2_71 q0 he hv hd K
theorem kf_X4_222 : (RX4, 222, (TX1 0).1, (TX1 0).2.1, (TX1 0).2.2.1, "QuietDuty") ∈ nestF := List.mem_of_getElem? (i := 1) rfl
theorem gf_X4_222 (C : Cx X RX4 cc nL ret rm tys) (q0 : Nat) {a : Nat} {fs : List Value} {v : Value} (he : ws[q0]? = some (a, .inr (1, fs))) (hv : fs[0]? = some v) (hd : decode cc pc = .ok (.getfield 222, 3)) (K : JR X Qf nL k n F ws lv (pc + 3) (v :: st)) : JR X Qf nL k n F ws lv pc (.ref a :: st) := r_getN C inG_X1 0 (by decide) rfl kf_X4_222 q0 he hv hd K
theorem kf_X1_15 : Cond.fieldLink RX1 15 (TX1 1).1 (TX1 1).2.1 (TX1 1).2.2.1 ∈ gtbl := g_tb 28 (by decide +kernel) (by decide +kernel)
theorem gf_X1_15 (C : Cx X RX1 cc nL ret rm tys) (q0 : Nat) {a : Nat} {fs : List Value} {v : Value} (he : ws[q0]? = some (a, .inr (1, fs))) (hv : fs[1]? = some v) (hd : decode cc pc = .ok (.getfield 15, 3)) (K : JR X Qf nL k n F ws lv (pc + 3) (v :: st)) : JR X Qf nL k n F ws lv pc (.ref a :: st) := r_get C inG_X1 1 (by decide) rfl kf_X1_15 q0 he hv hd K
theorem pf_X1_15 (C : Cx X RX1 cc nL ret rm tys) (q0 : Nat) {a : Nat} {fs : List Value} {x : Int32} (he : ws[q0]? = some (a, .inr (1, fs))) (hlen : fs.length = 3) (hd : decode cc pc = .ok (.putfield 15, 3)) (hw : ws.set q0 (a, .inr (1, fs.set 1 (.int x))) = ws') (K : JR X Qf nL k n F ws' lv (pc + 3) st) : JR X Qf nL k n F ws lv pc (.int x :: .ref a :: st) := r_put (ty := .int) C inG_X1 tyX1 tyX1_ok nmX1 1 (by decide) rfl (by decide +kernel) rfl kf_X1_15 q0 he rfl rfl (by rw [hlen]; decide) hd hw K
theorem kf_X4_228 : (RX4, 228, (TX1 1).1, (TX1 1).2.1, (TX1 1).2.2.1, "QuietDuty") ∈ nestF := List.mem_of_getElem? (i := 2) rfl
theorem gf_X4_228 (C : Cx X RX4 cc nL ret rm tys) (q0 : Nat) {a : Nat} {fs : List Value} {v : Value} (he : ws[q0]? = some (a, .inr (1, fs))) (hv : fs[1]? = some v) (hd : decode cc pc = .ok (.getfield 228, 3)) (K : JR X Qf nL k n F ws lv (pc + 3) (v :: st)) : JR X Qf nL k n F ws lv pc (.ref a :: st) := r_getN C inG_X1 1 (by decide) rfl kf_X4_228 q0 he hv hd K
theorem pf_X4_228 (C : Cx X RX4 cc nL ret rm tys) (q0 : Nat) {a : Nat} {fs : List Value} {x : Int32} (he : ws[q0]? = some (a, .inr (1, fs))) (hlen : fs.length = 3) (hd : decode cc pc = .ok (.putfield 228, 3)) (hw : ws.set q0 (a, .inr (1, fs.set 1 (.int x))) = ws') (K : JR X Qf nL k n F ws' lv (pc + 3) st) : JR X Qf nL k n F ws lv pc (.int x :: .ref a :: st) := r_putN (ty := .int) C inG_X1 tyX1 tyX1_ok nmX1 1 (by decide) rfl (by decide +kernel) rfl kf_X4_228 q0 he rfl rfl (by rw [hlen]; decide) hd hw K
theorem kf_X1_25 : Cond.fieldLink RX1 25 (TX1 2).1 (TX1 2).2.1 (TX1 2).2.2.1 ∈ gtbl := g_tb 30 (by decide +kernel) (by decide +kernel)
theorem gf_X1_25 (C : Cx X RX1 cc nL ret rm tys) (q0 : Nat) {a : Nat} {fs : List Value} {v : Value} (he : ws[q0]? = some (a, .inr (1, fs))) (hv : fs[2]? = some v) (hd : decode cc pc = .ok (.getfield 25, 3)) (K : JR X Qf nL k n F ws lv (pc + 3) (v :: st)) : JR X Qf nL k n F ws lv pc (.ref a :: st) := r_get C inG_X1 2 (by decide) rfl kf_X1_25 q0 he hv hd K
theorem pf_X1_25 (C : Cx X RX1 cc nL ret rm tys) (q0 : Nat) {a : Nat} {fs : List Value} {x : Int32} (he : ws[q0]? = some (a, .inr (1, fs))) (hlen : fs.length = 3) (hd : decode cc pc = .ok (.putfield 25, 3)) (hw : ws.set q0 (a, .inr (1, fs.set 2 (.int x))) = ws') (K : JR X Qf nL k n F ws' lv (pc + 3) st) : JR X Qf nL k n F ws lv pc (.int x :: .ref a :: st) := r_put (ty := .int) C inG_X1 tyX1 tyX1_ok nmX1 2 (by decide) rfl (by decide +kernel) rfl kf_X1_25 q0 he rfl rfl (by rw [hlen]; decide) hd hw K
theorem kf_X2_9 : Cond.fieldLink RX2 9 (TX2 0).1 (TX2 0).2.1 (TX2 0).2.2.1 ∈ gtbl := g_tb 45 (by decide +kernel) (by decide +kernel)
theorem gf_X2_9 (C : Cx X RX2 cc nL ret rm tys) (q0 : Nat) {a : Nat} {fs : List Value} {v : Value} (he : ws[q0]? = some (a, .inr (2, fs))) (hv : fs[0]? = some v) (hd : decode cc pc = .ok (.getfield 9, 3)) (K : JR X Qf nL k n F ws lv (pc + 3) (v :: st)) : JR X Qf nL k n F ws lv pc (.ref a :: st) := r_get C inG_X2 0 (by decide) rfl kf_X2_9 q0 he hv hd K
theorem pf_X2_9 (C : Cx X RX2 cc nL ret rm tys) (q0 : Nat) {a : Nat} {fs : List Value} {x : Nat} (he : ws[q0]? = some (a, .inr (2, fs))) (hlen : fs.length = 4) (hd : decode cc pc = .ok (.putfield 9, 3)) (hw : ws.set q0 (a, .inr (2, fs.set 0 (.ref x))) = ws') (K : JR X Qf nL k n F ws' lv (pc + 3) st) : JR X Qf nL k n F ws lv pc (.ref x :: .ref a :: st) := r_put (ty := (.object "QuietDuty$Sheet")) C inG_X2 tyX2 tyX2_ok nmX2 0 (by decide) rfl (by decide +kernel) rfl kf_X2_9 q0 he rfl rfl (by rw [hlen]; decide) hd hw K
theorem kf_X2_15 : Cond.fieldLink RX2 15 (TX2 1).1 (TX2 1).2.1 (TX2 1).2.2.1 ∈ gtbl := g_tb 46 (by decide +kernel) (by decide +kernel)
theorem gf_X2_15 (C : Cx X RX2 cc nL ret rm tys) (q0 : Nat) {a : Nat} {fs : List Value} {v : Value} (he : ws[q0]? = some (a, .inr (2, fs))) (hv : fs[1]? = some v) (hd : decode cc pc = .ok (.getfield 15, 3)) (K : JR X Qf nL k n F ws lv (pc + 3) (v :: st)) : JR X Qf nL k n F ws lv pc (.ref a :: st) := r_get C inG_X2 1 (by decide) rfl kf_X2_15 q0 he hv hd K
theorem pf_X2_15 (C : Cx X RX2 cc nL ret rm tys) (q0 : Nat) {a : Nat} {fs : List Value} {x : Int32} (he : ws[q0]? = some (a, .inr (2, fs))) (hlen : fs.length = 4) (hd : decode cc pc = .ok (.putfield 15, 3)) (hw : ws.set q0 (a, .inr (2, fs.set 1 (.int x))) = ws') (K : JR X Qf nL k n F ws' lv (pc + 3) st) : JR X Qf nL k n F ws lv pc (.int x :: .ref a :: st) := r_put (ty := .int) C inG_X2 tyX2 tyX2_ok nmX2 1 (by decide) rfl (by decide +kernel) rfl kf_X2_15 q0 he rfl rfl (by rw [hlen]; decide) hd hw K
theorem kf_X2_19 : Cond.fieldLink RX2 19 (TX2 2).1 (TX2 2).2.1 (TX2 2).2.2.1 ∈ gtbl := g_tb 47 (by decide +kernel) (by decide +kernel)
theorem gf_X2_19 (C : Cx X RX2 cc nL ret rm tys) (q0 : Nat) {a : Nat} {fs : List Value} {v : Value} (he : ws[q0]? = some (a, .inr (2, fs))) (hv : fs[2]? = some v) (hd : decode cc pc = .ok (.getfield 19, 3)) (K : JR X Qf nL k n F ws lv (pc + 3) (v :: st)) : JR X Qf nL k n F ws lv pc (.ref a :: st) := r_get C inG_X2 2 (by decide) rfl kf_X2_19 q0 he hv hd K
theorem pf_X2_19 (C : Cx X RX2 cc nL ret rm tys) (q0 : Nat) {a : Nat} {fs : List Value} {x : Int32} (he : ws[q0]? = some (a, .inr (2, fs))) (hlen : fs.length = 4) (hd : decode cc pc = .ok (.putfield 19, 3)) (hw : ws.set q0 (a, .inr (2, fs.set 2 (.int x))) = ws') (K : JR X Qf nL k n F ws' lv (pc + 3) st) : JR X Qf nL k n F ws lv pc (.int x :: .ref a :: st) := r_put (ty := .int) C inG_X2 tyX2 tyX2_ok nmX2 2 (by decide) rfl (by decide +kernel) rfl kf_X2_19 q0 he rfl rfl (by rw [hlen]; decide) hd hw K
theorem kf_X2_22 : Cond.fieldLink RX2 22 (TX2 3).1 (TX2 3).2.1 (TX2 3).2.2.1 ∈ gtbl := g_tb 48 (by decide +kernel) (by decide +kernel)
theorem gf_X2_22 (C : Cx X RX2 cc nL ret rm tys) (q0 : Nat) {a : Nat} {fs : List Value} {v : Value} (he : ws[q0]? = some (a, .inr (2, fs))) (hv : fs[3]? = some v) (hd : decode cc pc = .ok (.getfield 22, 3)) (K : JR X Qf nL k n F ws lv (pc + 3) (v :: st)) : JR X Qf nL k n F ws lv pc (.ref a :: st) := r_get C inG_X2 3 (by decide) rfl kf_X2_22 q0 he hv hd K
theorem pf_X2_22 (C : Cx X RX2 cc nL ret rm tys) (q0 : Nat) {a : Nat} {fs : List Value} {x : Int32} (he : ws[q0]? = some (a, .inr (2, fs))) (hlen : fs.length = 4) (hd : decode cc pc = .ok (.putfield 22, 3)) (hw : ws.set q0 (a, .inr (2, fs.set 3 (.int x))) = ws') (K : JR X Qf nL k n F ws' lv (pc + 3) st) : JR X Qf nL k n F ws lv pc (.int x :: .ref a :: st) := r_put (ty := .int) C inG_X2 tyX2 tyX2_ok nmX2 3 (by decide) rfl (by decide +kernel) rfl kf_X2_22 q0 he rfl rfl (by rw [hlen]; decide) hd hw K
theorem kf_X3_9 : Cond.fieldLink RX3 9 (TX3 0).1 (TX3 0).2.1 (TX3 0).2.2.1 ∈ gtbl := g_tb 64 (by decide +kernel) (by decide +kernel)
theorem gf_X3_9 (C : Cx X RX3 cc nL ret rm tys) (q0 : Nat) {a : Nat} {fs : List Value} {v : Value} (he : ws[q0]? = some (a, .inr (3, fs))) (hv : fs[0]? = some v) (hd : decode cc pc = .ok (.getfield 9, 3)) (K : JR X Qf nL k n F ws lv (pc + 3) (v :: st)) : JR X Qf nL k n F ws lv pc (.ref a :: st) := r_get C inG_X3 0 (by decide) rfl kf_X3_9 q0 he hv hd K
theorem kf_X3_15 : Cond.fieldLink RX3 15 (TX3 1).1 (TX3 1).2.1 (TX3 1).2.2.1 ∈ gtbl := g_tb 65 (by decide +kernel) (by decide +kernel)
theorem gf_X3_15 (C : Cx X RX3 cc nL ret rm tys) (q0 : Nat) {a : Nat} {fs : List Value} {v : Value} (he : ws[q0]? = some (a, .inr (3, fs))) (hv : fs[1]? = some v) (hd : decode cc pc = .ok (.getfield 15, 3)) (K : JR X Qf nL k n F ws lv (pc + 3) (v :: st)) : JR X Qf nL k n F ws lv pc (.ref a :: st) := r_get C inG_X3 1 (by decide) rfl kf_X3_15 q0 he hv hd K
theorem pf_X3_15 (C : Cx X RX3 cc nL ret rm tys) (q0 : Nat) {a : Nat} {fs : List Value} {x : Int32} (he : ws[q0]? = some (a, .inr (3, fs))) (hlen : fs.length = 2) (hd : decode cc pc = .ok (.putfield 15, 3)) (hw : ws.set q0 (a, .inr (3, fs.set 1 (.int x))) = ws') (K : JR X Qf nL k n F ws' lv (pc + 3) st) : JR X Qf nL k n F ws lv pc (.int x :: .ref a :: st) := r_put (ty := .int) C inG_X3 tyX3 tyX3_ok nmX3 1 (by decide) rfl (by decide +kernel) rfl kf_X3_15 q0 he rfl rfl (by rw [hlen]; decide) hd hw K
theorem kf_X0_43 : Cond.fieldLink RX0 43 (TX0 0).1 (TX0 0).2.1 (TX0 0).2.2.1 ∈ gtbl := g_tb 77 (by decide +kernel) (by decide +kernel)
theorem gf_X0_43 (C : Cx X RX0 cc nL ret rm tys) (q0 : Nat) {a : Nat} {fs : List Value} {v : Value} (he : ws[q0]? = some (a, .inr (0, fs))) (hv : fs[0]? = some v) (hd : decode cc pc = .ok (.getfield 43, 3)) (K : JR X Qf nL k n F ws lv (pc + 3) (v :: st)) : JR X Qf nL k n F ws lv pc (.ref a :: st) := r_get C inG_X0 0 (by decide) rfl kf_X0_43 q0 he hv hd K
theorem pf_X0_43 (C : Cx X RX0 cc nL ret rm tys) (q0 : Nat) {a : Nat} {fs : List Value} {x : Int32} (he : ws[q0]? = some (a, .inr (0, fs))) (hlen : fs.length = 16) (hd : decode cc pc = .ok (.putfield 43, 3)) (hw : ws.set q0 (a, .inr (0, fs.set 0 (.int x))) = ws') (K : JR X Qf nL k n F ws' lv (pc + 3) st) : JR X Qf nL k n F ws lv pc (.int x :: .ref a :: st) := r_put (ty := .int) C inG_X0 tyX0 tyX0_ok nmX0 0 (by decide) rfl (by decide +kernel) rfl kf_X0_43 q0 he rfl rfl (by rw [hlen]; decide) hd hw K
theorem kf_X4_179 : (RX4, 179, (TX0 0).1, (TX0 0).2.1, (TX0 0).2.2.1, "QuietDuty") ∈ nestF := List.mem_of_getElem? (i := 3) rfl
theorem gf_X4_179 (C : Cx X RX4 cc nL ret rm tys) (q0 : Nat) {a : Nat} {fs : List Value} {v : Value} (he : ws[q0]? = some (a, .inr (0, fs))) (hv : fs[0]? = some v) (hd : decode cc pc = .ok (.getfield 179, 3)) (K : JR X Qf nL k n F ws lv (pc + 3) (v :: st)) : JR X Qf nL k n F ws lv pc (.ref a :: st) := r_getN C inG_X0 0 (by decide) rfl kf_X4_179 q0 he hv hd K
theorem pf_X4_179 (C : Cx X RX4 cc nL ret rm tys) (q0 : Nat) {a : Nat} {fs : List Value} {x : Int32} (he : ws[q0]? = some (a, .inr (0, fs))) (hlen : fs.length = 16) (hd : decode cc pc = .ok (.putfield 179, 3)) (hw : ws.set q0 (a, .inr (0, fs.set 0 (.int x))) = ws') (K : JR X Qf nL k n F ws' lv (pc + 3) st) : JR X Qf nL k n F ws lv pc (.int x :: .ref a :: st) := r_putN (ty := .int) C inG_X0 tyX0 tyX0_ok nmX0 0 (by decide) rfl (by decide +kernel) rfl kf_X4_179 q0 he rfl rfl (by rw [hlen]; decide) hd hw K
theorem kf_X0_9 : Cond.fieldLink RX0 9 (TX0 1).1 (TX0 1).2.1 (TX0 1).2.2.1 ∈ gtbl := g_tb 79 (by decide +kernel) (by decide +kernel)
theorem gf_X0_9 (C : Cx X RX0 cc nL ret rm tys) (q0 : Nat) {a : Nat} {fs : List Value} {v : Value} (he : ws[q0]? = some (a, .inr (0, fs))) (hv : fs[1]? = some v) (hd : decode cc pc = .ok (.getfield 9, 3)) (K : JR X Qf nL k n F ws lv (pc + 3) (v :: st)) : JR X Qf nL k n F ws lv pc (.ref a :: st) := r_get C inG_X0 1 (by decide) rfl kf_X0_9 q0 he hv hd K
theorem kf_X4_79 : (RX4, 79, (TX0 1).1, (TX0 1).2.1, (TX0 1).2.2.1, "QuietDuty") ∈ nestF := List.mem_of_getElem? (i := 4) rfl
theorem gf_X4_79 (C : Cx X RX4 cc nL ret rm tys) (q0 : Nat) {a : Nat} {fs : List Value} {v : Value} (he : ws[q0]? = some (a, .inr (0, fs))) (hv : fs[1]? = some v) (hd : decode cc pc = .ok (.getfield 79, 3)) (K : JR X Qf nL k n F ws lv (pc + 3) (v :: st)) : JR X Qf nL k n F ws lv pc (.ref a :: st) := r_getN C inG_X0 1 (by decide) rfl kf_X4_79 q0 he hv hd K
theorem kf_X3_45 : (RX3, 45, (TX0 1).1, (TX0 1).2.1, (TX0 1).2.2.1, "QuietDuty") ∈ nestF := List.mem_of_getElem? (i := 5) rfl
theorem gf_X3_45 (C : Cx X RX3 cc nL ret rm tys) (q0 : Nat) {a : Nat} {fs : List Value} {v : Value} (he : ws[q0]? = some (a, .inr (0, fs))) (hv : fs[1]? = some v) (hd : decode cc pc = .ok (.getfield 45, 3)) (K : JR X Qf nL k n F ws lv (pc + 3) (v :: st)) : JR X Qf nL k n F ws lv pc (.ref a :: st) := r_getN C inG_X0 1 (by decide) rfl kf_X3_45 q0 he hv hd K
theorem kf_X0_15 : Cond.fieldLink RX0 15 (TX0 2).1 (TX0 2).2.1 (TX0 2).2.2.1 ∈ gtbl := g_tb 82 (by decide +kernel) (by decide +kernel)
theorem gf_X0_15 (C : Cx X RX0 cc nL ret rm tys) (q0 : Nat) {a : Nat} {fs : List Value} {v : Value} (he : ws[q0]? = some (a, .inr (0, fs))) (hv : fs[2]? = some v) (hd : decode cc pc = .ok (.getfield 15, 3)) (K : JR X Qf nL k n F ws lv (pc + 3) (v :: st)) : JR X Qf nL k n F ws lv pc (.ref a :: st) := r_get C inG_X0 2 (by decide) rfl kf_X0_15 q0 he hv hd K
theorem kf_X4_83 : (RX4, 83, (TX0 2).1, (TX0 2).2.1, (TX0 2).2.2.1, "QuietDuty") ∈ nestF := List.mem_of_getElem? (i := 6) rfl
theorem gf_X4_83 (C : Cx X RX4 cc nL ret rm tys) (q0 : Nat) {a : Nat} {fs : List Value} {v : Value} (he : ws[q0]? = some (a, .inr (0, fs))) (hv : fs[2]? = some v) (hd : decode cc pc = .ok (.getfield 83, 3)) (K : JR X Qf nL k n F ws lv (pc + 3) (v :: st)) : JR X Qf nL k n F ws lv pc (.ref a :: st) := r_getN C inG_X0 2 (by decide) rfl kf_X4_83 q0 he hv hd K
theorem kf_X0_46 : Cond.fieldLink RX0 46 (TX0 3).1 (TX0 3).2.1 (TX0 3).2.2.1 ∈ gtbl := g_tb 84 (by decide +kernel) (by decide +kernel)
theorem gf_X0_46 (C : Cx X RX0 cc nL ret rm tys) (q0 : Nat) {a : Nat} {fs : List Value} {v : Value} (he : ws[q0]? = some (a, .inr (0, fs))) (hv : fs[3]? = some v) (hd : decode cc pc = .ok (.getfield 46, 3)) (K : JR X Qf nL k n F ws lv (pc + 3) (v :: st)) : JR X Qf nL k n F ws lv pc (.ref a :: st) := r_get C inG_X0 3 (by decide) rfl kf_X0_46 q0 he hv hd K
theorem pf_X0_46 (C : Cx X RX0 cc nL ret rm tys) (q0 : Nat) {a : Nat} {fs : List Value} {x : Int32} (he : ws[q0]? = some (a, .inr (0, fs))) (hlen : fs.length = 16) (hd : decode cc pc = .ok (.putfield 46, 3)) (hw : ws.set q0 (a, .inr (0, fs.set 3 (.int x))) = ws') (K : JR X Qf nL k n F ws' lv (pc + 3) st) : JR X Qf nL k n F ws lv pc (.int x :: .ref a :: st) := r_put (ty := .int) C inG_X0 tyX0 tyX0_ok nmX0 3 (by decide) rfl (by decide +kernel) rfl kf_X0_46 q0 he rfl rfl (by rw [hlen]; decide) hd hw K
theorem kf_X4_72 : (RX4, 72, (TX0 3).1, (TX0 3).2.1, (TX0 3).2.2.1, "QuietDuty") ∈ nestF := List.mem_of_getElem? (i := 7) rfl
theorem gf_X4_72 (C : Cx X RX4 cc nL ret rm tys) (q0 : Nat) {a : Nat} {fs : List Value} {v : Value} (he : ws[q0]? = some (a, .inr (0, fs))) (hv : fs[3]? = some v) (hd : decode cc pc = .ok (.getfield 72, 3)) (K : JR X Qf nL k n F ws lv (pc + 3) (v :: st)) : JR X Qf nL k n F ws lv pc (.ref a :: st) := r_getN C inG_X0 3 (by decide) rfl kf_X4_72 q0 he hv hd K
theorem pf_X4_72 (C : Cx X RX4 cc nL ret rm tys) (q0 : Nat) {a : Nat} {fs : List Value} {x : Int32} (he : ws[q0]? = some (a, .inr (0, fs))) (hlen : fs.length = 16) (hd : decode cc pc = .ok (.putfield 72, 3)) (hw : ws.set q0 (a, .inr (0, fs.set 3 (.int x))) = ws') (K : JR X Qf nL k n F ws' lv (pc + 3) st) : JR X Qf nL k n F ws lv pc (.int x :: .ref a :: st) := r_putN (ty := .int) C inG_X0 tyX0 tyX0_ok nmX0 3 (by decide) rfl (by decide +kernel) rfl kf_X4_72 q0 he rfl rfl (by rw [hlen]; decide) hd hw K
theorem kf_X3_27 : (RX3, 27, (TX0 3).1, (TX0 3).2.1, (TX0 3).2.2.1, "QuietDuty") ∈ nestF := List.mem_of_getElem? (i := 8) rfl
theorem gf_X3_27 (C : Cx X RX3 cc nL ret rm tys) (q0 : Nat) {a : Nat} {fs : List Value} {v : Value} (he : ws[q0]? = some (a, .inr (0, fs))) (hv : fs[3]? = some v) (hd : decode cc pc = .ok (.getfield 27, 3)) (K : JR X Qf nL k n F ws lv (pc + 3) (v :: st)) : JR X Qf nL k n F ws lv pc (.ref a :: st) := r_getN C inG_X0 3 (by decide) rfl kf_X3_27 q0 he hv hd K
theorem pf_X3_27 (C : Cx X RX3 cc nL ret rm tys) (q0 : Nat) {a : Nat} {fs : List Value} {x : Int32} (he : ws[q0]? = some (a, .inr (0, fs))) (hlen : fs.length = 16) (hd : decode cc pc = .ok (.putfield 27, 3)) (hw : ws.set q0 (a, .inr (0, fs.set 3 (.int x))) = ws') (K : JR X Qf nL k n F ws' lv (pc + 3) st) : JR X Qf nL k n F ws lv pc (.int x :: .ref a :: st) := r_putN (ty := .int) C inG_X0 tyX0 tyX0_ok nmX0 3 (by decide) rfl (by decide +kernel) rfl kf_X3_27 q0 he rfl rfl (by rw [hlen]; decide) hd hw K
theorem kf_X0_18 : Cond.fieldLink RX0 18 (TX0 4).1 (TX0 4).2.1 (TX0 4).2.2.1 ∈ gtbl := g_tb 87 (by decide +kernel) (by decide +kernel)
theorem gf_X0_18 (C : Cx X RX0 cc nL ret rm tys) (q0 : Nat) {a : Nat} {fs : List Value} {v : Value} (he : ws[q0]? = some (a, .inr (0, fs))) (hv : fs[4]? = some v) (hd : decode cc pc = .ok (.getfield 18, 3)) (K : JR X Qf nL k n F ws lv (pc + 3) (v :: st)) : JR X Qf nL k n F ws lv pc (.ref a :: st) := r_get C inG_X0 4 (by decide) rfl kf_X0_18 q0 he hv hd K
theorem kf_X4_89 : (RX4, 89, (TX0 4).1, (TX0 4).2.1, (TX0 4).2.2.1, "QuietDuty") ∈ nestF := List.mem_of_getElem? (i := 9) rfl
theorem gf_X4_89 (C : Cx X RX4 cc nL ret rm tys) (q0 : Nat) {a : Nat} {fs : List Value} {v : Value} (he : ws[q0]? = some (a, .inr (0, fs))) (hv : fs[4]? = some v) (hd : decode cc pc = .ok (.getfield 89, 3)) (K : JR X Qf nL k n F ws lv (pc + 3) (v :: st)) : JR X Qf nL k n F ws lv pc (.ref a :: st) := r_getN C inG_X0 4 (by decide) rfl kf_X4_89 q0 he hv hd K
theorem kf_X0_21 : Cond.fieldLink RX0 21 (TX0 5).1 (TX0 5).2.1 (TX0 5).2.2.1 ∈ gtbl := g_tb 89 (by decide +kernel) (by decide +kernel)
theorem gf_X0_21 (C : Cx X RX0 cc nL ret rm tys) (q0 : Nat) {a : Nat} {fs : List Value} {v : Value} (he : ws[q0]? = some (a, .inr (0, fs))) (hv : fs[5]? = some v) (hd : decode cc pc = .ok (.getfield 21, 3)) (K : JR X Qf nL k n F ws lv (pc + 3) (v :: st)) : JR X Qf nL k n F ws lv pc (.ref a :: st) := r_get C inG_X0 5 (by decide) rfl kf_X0_21 q0 he hv hd K
theorem kf_X4_92 : (RX4, 92, (TX0 5).1, (TX0 5).2.1, (TX0 5).2.2.1, "QuietDuty") ∈ nestF := List.mem_of_getElem? (i := 10) rfl
theorem gf_X4_92 (C : Cx X RX4 cc nL ret rm tys) (q0 : Nat) {a : Nat} {fs : List Value} {v : Value} (he : ws[q0]? = some (a, .inr (0, fs))) (hv : fs[5]? = some v) (hd : decode cc pc = .ok (.getfield 92, 3)) (K : JR X Qf nL k n F ws lv (pc + 3) (v :: st)) : JR X Qf nL k n F ws lv pc (.ref a :: st) := r_getN C inG_X0 5 (by decide) rfl kf_X4_92 q0 he hv hd K
theorem kf_X0_24 : Cond.fieldLink RX0 24 (TX0 6).1 (TX0 6).2.1 (TX0 6).2.2.1 ∈ gtbl := g_tb 91 (by decide +kernel) (by decide +kernel)
theorem gf_X0_24 (C : Cx X RX0 cc nL ret rm tys) (q0 : Nat) {a : Nat} {fs : List Value} {v : Value} (he : ws[q0]? = some (a, .inr (0, fs))) (hv : fs[6]? = some v) (hd : decode cc pc = .ok (.getfield 24, 3)) (K : JR X Qf nL k n F ws lv (pc + 3) (v :: st)) : JR X Qf nL k n F ws lv pc (.ref a :: st) := r_get C inG_X0 6 (by decide) rfl kf_X0_24 q0 he hv hd K
theorem kf_X4_95 : (RX4, 95, (TX0 6).1, (TX0 6).2.1, (TX0 6).2.2.1, "QuietDuty") ∈ nestF := List.mem_of_getElem? (i := 11) rfl
theorem gf_X4_95 (C : Cx X RX4 cc nL ret rm tys) (q0 : Nat) {a : Nat} {fs : List Value} {v : Value} (he : ws[q0]? = some (a, .inr (0, fs))) (hv : fs[6]? = some v) (hd : decode cc pc = .ok (.getfield 95, 3)) (K : JR X Qf nL k n F ws lv (pc + 3) (v :: st)) : JR X Qf nL k n F ws lv pc (.ref a :: st) := r_getN C inG_X0 6 (by decide) rfl kf_X4_95 q0 he hv hd K
theorem kf_X0_27 : Cond.fieldLink RX0 27 (TX0 7).1 (TX0 7).2.1 (TX0 7).2.2.1 ∈ gtbl := g_tb 93 (by decide +kernel) (by decide +kernel)
theorem gf_X0_27 (C : Cx X RX0 cc nL ret rm tys) (q0 : Nat) {a : Nat} {fs : List Value} {v : Value} (he : ws[q0]? = some (a, .inr (0, fs))) (hv : fs[7]? = some v) (hd : decode cc pc = .ok (.getfield 27, 3)) (K : JR X Qf nL k n F ws lv (pc + 3) (v :: st)) : JR X Qf nL k n F ws lv pc (.ref a :: st) := r_get C inG_X0 7 (by decide) rfl kf_X0_27 q0 he hv hd K
theorem kf_X4_104 : (RX4, 104, (TX0 7).1, (TX0 7).2.1, (TX0 7).2.2.1, "QuietDuty") ∈ nestF := List.mem_of_getElem? (i := 12) rfl
theorem gf_X4_104 (C : Cx X RX4 cc nL ret rm tys) (q0 : Nat) {a : Nat} {fs : List Value} {v : Value} (he : ws[q0]? = some (a, .inr (0, fs))) (hv : fs[7]? = some v) (hd : decode cc pc = .ok (.getfield 104, 3)) (K : JR X Qf nL k n F ws lv (pc + 3) (v :: st)) : JR X Qf nL k n F ws lv pc (.ref a :: st) := r_getN C inG_X0 7 (by decide) rfl kf_X4_104 q0 he hv hd K
theorem kf_X0_30 : Cond.fieldLink RX0 30 (TX0 8).1 (TX0 8).2.1 (TX0 8).2.2.1 ∈ gtbl := g_tb 95 (by decide +kernel) (by decide +kernel)
theorem gf_X0_30 (C : Cx X RX0 cc nL ret rm tys) (q0 : Nat) {a : Nat} {fs : List Value} {v : Value} (he : ws[q0]? = some (a, .inr (0, fs))) (hv : fs[8]? = some v) (hd : decode cc pc = .ok (.getfield 30, 3)) (K : JR X Qf nL k n F ws lv (pc + 3) (v :: st)) : JR X Qf nL k n F ws lv pc (.ref a :: st) := r_get C inG_X0 8 (by decide) rfl kf_X0_30 q0 he hv hd K
theorem kf_X4_130 : (RX4, 130, (TX0 8).1, (TX0 8).2.1, (TX0 8).2.2.1, "QuietDuty") ∈ nestF := List.mem_of_getElem? (i := 13) rfl
theorem gf_X4_130 (C : Cx X RX4 cc nL ret rm tys) (q0 : Nat) {a : Nat} {fs : List Value} {v : Value} (he : ws[q0]? = some (a, .inr (0, fs))) (hv : fs[8]? = some v) (hd : decode cc pc = .ok (.getfield 130, 3)) (K : JR X Qf nL k n F ws lv (pc + 3) (v :: st)) : JR X Qf nL k n F ws lv pc (.ref a :: st) := r_getN C inG_X0 8 (by decide) rfl kf_X4_130 q0 he hv hd K
theorem kf_X0_49 : Cond.fieldLink RX0 49 (TX0 9).1 (TX0 9).2.1 (TX0 9).2.2.1 ∈ gtbl := g_tb 97 (by decide +kernel) (by decide +kernel)
theorem gf_X0_49 (C : Cx X RX0 cc nL ret rm tys) (q0 : Nat) {a : Nat} {fs : List Value} {v : Value} (he : ws[q0]? = some (a, .inr (0, fs))) (hv : fs[9]? = some v) (hd : decode cc pc = .ok (.getfield 49, 3)) (K : JR X Qf nL k n F ws lv (pc + 3) (v :: st)) : JR X Qf nL k n F ws lv pc (.ref a :: st) := r_get C inG_X0 9 (by decide) rfl kf_X0_49 q0 he hv hd K
theorem pf_X0_49 (C : Cx X RX0 cc nL ret rm tys) (q0 : Nat) {a : Nat} {fs : List Value} {x : Int32} (he : ws[q0]? = some (a, .inr (0, fs))) (hlen : fs.length = 16) (hd : decode cc pc = .ok (.putfield 49, 3)) (hw : ws.set q0 (a, .inr (0, fs.set 9 (.int x))) = ws') (K : JR X Qf nL k n F ws' lv (pc + 3) st) : JR X Qf nL k n F ws lv pc (.int x :: .ref a :: st) := r_put (ty := .int) C inG_X0 tyX0 tyX0_ok nmX0 9 (by decide) rfl (by decide +kernel) rfl kf_X0_49 q0 he rfl rfl (by rw [hlen]; decide) hd hw K
theorem kf_X4_127 : (RX4, 127, (TX0 9).1, (TX0 9).2.1, (TX0 9).2.2.1, "QuietDuty") ∈ nestF := List.mem_of_getElem? (i := 14) rfl
theorem gf_X4_127 (C : Cx X RX4 cc nL ret rm tys) (q0 : Nat) {a : Nat} {fs : List Value} {v : Value} (he : ws[q0]? = some (a, .inr (0, fs))) (hv : fs[9]? = some v) (hd : decode cc pc = .ok (.getfield 127, 3)) (K : JR X Qf nL k n F ws lv (pc + 3) (v :: st)) : JR X Qf nL k n F ws lv pc (.ref a :: st) := r_getN C inG_X0 9 (by decide) rfl kf_X4_127 q0 he hv hd K
theorem pf_X4_127 (C : Cx X RX4 cc nL ret rm tys) (q0 : Nat) {a : Nat} {fs : List Value} {x : Int32} (he : ws[q0]? = some (a, .inr (0, fs))) (hlen : fs.length = 16) (hd : decode cc pc = .ok (.putfield 127, 3)) (hw : ws.set q0 (a, .inr (0, fs.set 9 (.int x))) = ws') (K : JR X Qf nL k n F ws' lv (pc + 3) st) : JR X Qf nL k n F ws lv pc (.int x :: .ref a :: st) := r_putN (ty := .int) C inG_X0 tyX0 tyX0_ok nmX0 9 (by decide) rfl (by decide +kernel) rfl kf_X4_127 q0 he rfl rfl (by rw [hlen]; decide) hd hw K
theorem kf_X0_52 : Cond.fieldLink RX0 52 (TX0 10).1 (TX0 10).2.1 (TX0 10).2.2.1 ∈ gtbl := g_tb 99 (by decide +kernel) (by decide +kernel)
theorem gf_X0_52 (C : Cx X RX0 cc nL ret rm tys) (q0 : Nat) {a : Nat} {fs : List Value} {v : Value} (he : ws[q0]? = some (a, .inr (0, fs))) (hv : fs[10]? = some v) (hd : decode cc pc = .ok (.getfield 52, 3)) (K : JR X Qf nL k n F ws lv (pc + 3) (v :: st)) : JR X Qf nL k n F ws lv pc (.ref a :: st) := r_get C inG_X0 10 (by decide) rfl kf_X0_52 q0 he hv hd K
theorem pf_X0_52 (C : Cx X RX0 cc nL ret rm tys) (q0 : Nat) {a : Nat} {fs : List Value} {x : Int32} (he : ws[q0]? = some (a, .inr (0, fs))) (hlen : fs.length = 16) (hd : decode cc pc = .ok (.putfield 52, 3)) (hw : ws.set q0 (a, .inr (0, fs.set 10 (.int x))) = ws') (K : JR X Qf nL k n F ws' lv (pc + 3) st) : JR X Qf nL k n F ws lv pc (.int x :: .ref a :: st) := r_put (ty := .int) C inG_X0 tyX0 tyX0_ok nmX0 10 (by decide) rfl (by decide +kernel) rfl kf_X0_52 q0 he rfl rfl (by rw [hlen]; decide) hd hw K
theorem kf_X4_124 : (RX4, 124, (TX0 10).1, (TX0 10).2.1, (TX0 10).2.2.1, "QuietDuty") ∈ nestF := List.mem_of_getElem? (i := 15) rfl
theorem gf_X4_124 (C : Cx X RX4 cc nL ret rm tys) (q0 : Nat) {a : Nat} {fs : List Value} {v : Value} (he : ws[q0]? = some (a, .inr (0, fs))) (hv : fs[10]? = some v) (hd : decode cc pc = .ok (.getfield 124, 3)) (K : JR X Qf nL k n F ws lv (pc + 3) (v :: st)) : JR X Qf nL k n F ws lv pc (.ref a :: st) := r_getN C inG_X0 10 (by decide) rfl kf_X4_124 q0 he hv hd K
theorem pf_X4_124 (C : Cx X RX4 cc nL ret rm tys) (q0 : Nat) {a : Nat} {fs : List Value} {x : Int32} (he : ws[q0]? = some (a, .inr (0, fs))) (hlen : fs.length = 16) (hd : decode cc pc = .ok (.putfield 124, 3)) (hw : ws.set q0 (a, .inr (0, fs.set 10 (.int x))) = ws') (K : JR X Qf nL k n F ws' lv (pc + 3) st) : JR X Qf nL k n F ws lv pc (.int x :: .ref a :: st) := r_putN (ty := .int) C inG_X0 tyX0 tyX0_ok nmX0 10 (by decide) rfl (by decide +kernel) rfl kf_X4_124 q0 he rfl rfl (by rw [hlen]; decide) hd hw K
theorem kf_X0_55 : Cond.fieldLink RX0 55 (TX0 11).1 (TX0 11).2.1 (TX0 11).2.2.1 ∈ gtbl := g_tb 101 (by decide +kernel) (by decide +kernel)
theorem gf_X0_55 (C : Cx X RX0 cc nL ret rm tys) (q0 : Nat) {a : Nat} {fs : List Value} {v : Value} (he : ws[q0]? = some (a, .inr (0, fs))) (hv : fs[11]? = some v) (hd : decode cc pc = .ok (.getfield 55, 3)) (K : JR X Qf nL k n F ws lv (pc + 3) (v :: st)) : JR X Qf nL k n F ws lv pc (.ref a :: st) := r_get C inG_X0 11 (by decide) rfl kf_X0_55 q0 he hv hd K
theorem pf_X0_55 (C : Cx X RX0 cc nL ret rm tys) (q0 : Nat) {a : Nat} {fs : List Value} {x : Int32} (he : ws[q0]? = some (a, .inr (0, fs))) (hlen : fs.length = 16) (hd : decode cc pc = .ok (.putfield 55, 3)) (hw : ws.set q0 (a, .inr (0, fs.set 11 (.int x))) = ws') (K : JR X Qf nL k n F ws' lv (pc + 3) st) : JR X Qf nL k n F ws lv pc (.int x :: .ref a :: st) := r_put (ty := .int) C inG_X0 tyX0 tyX0_ok nmX0 11 (by decide) rfl (by decide +kernel) rfl kf_X0_55 q0 he rfl rfl (by rw [hlen]; decide) hd hw K
theorem kf_X2_37 : (RX2, 37, (TX0 11).1, (TX0 11).2.1, (TX0 11).2.2.1, "QuietDuty") ∈ nestF := List.mem_of_getElem? (i := 16) rfl
theorem gf_X2_37 (C : Cx X RX2 cc nL ret rm tys) (q0 : Nat) {a : Nat} {fs : List Value} {v : Value} (he : ws[q0]? = some (a, .inr (0, fs))) (hv : fs[11]? = some v) (hd : decode cc pc = .ok (.getfield 37, 3)) (K : JR X Qf nL k n F ws lv (pc + 3) (v :: st)) : JR X Qf nL k n F ws lv pc (.ref a :: st) := r_getN C inG_X0 11 (by decide) rfl kf_X2_37 q0 he hv hd K
theorem pf_X2_37 (C : Cx X RX2 cc nL ret rm tys) (q0 : Nat) {a : Nat} {fs : List Value} {x : Int32} (he : ws[q0]? = some (a, .inr (0, fs))) (hlen : fs.length = 16) (hd : decode cc pc = .ok (.putfield 37, 3)) (hw : ws.set q0 (a, .inr (0, fs.set 11 (.int x))) = ws') (K : JR X Qf nL k n F ws' lv (pc + 3) st) : JR X Qf nL k n F ws lv pc (.int x :: .ref a :: st) := r_putN (ty := .int) C inG_X0 tyX0 tyX0_ok nmX0 11 (by decide) rfl (by decide +kernel) rfl kf_X2_37 q0 he rfl rfl (by rw [hlen]; decide) hd hw K
theorem kf_X4_121 : (RX4, 121, (TX0 11).1, (TX0 11).2.1, (TX0 11).2.2.1, "QuietDuty") ∈ nestF := List.mem_of_getElem? (i := 17) rfl
theorem gf_X4_121 (C : Cx X RX4 cc nL ret rm tys) (q0 : Nat) {a : Nat} {fs : List Value} {v : Value} (he : ws[q0]? = some (a, .inr (0, fs))) (hv : fs[11]? = some v) (hd : decode cc pc = .ok (.getfield 121, 3)) (K : JR X Qf nL k n F ws lv (pc + 3) (v :: st)) : JR X Qf nL k n F ws lv pc (.ref a :: st) := r_getN C inG_X0 11 (by decide) rfl kf_X4_121 q0 he hv hd K
theorem pf_X4_121 (C : Cx X RX4 cc nL ret rm tys) (q0 : Nat) {a : Nat} {fs : List Value} {x : Int32} (he : ws[q0]? = some (a, .inr (0, fs))) (hlen : fs.length = 16) (hd : decode cc pc = .ok (.putfield 121, 3)) (hw : ws.set q0 (a, .inr (0, fs.set 11 (.int x))) = ws') (K : JR X Qf nL k n F ws' lv (pc + 3) st) : JR X Qf nL k n F ws lv pc (.int x :: .ref a :: st) := r_putN (ty := .int) C inG_X0 tyX0 tyX0_ok nmX0 11 (by decide) rfl (by decide +kernel) rfl kf_X4_121 q0 he rfl rfl (by rw [hlen]; decide) hd hw K
theorem kf_X0_33 : Cond.fieldLink RX0 33 (TX0 12).1 (TX0 12).2.1 (TX0 12).2.2.1 ∈ gtbl := g_tb 104 (by decide +kernel) (by decide +kernel)
theorem gf_X0_33 (C : Cx X RX0 cc nL ret rm tys) (q0 : Nat) {a : Nat} {fs : List Value} {v : Value} (he : ws[q0]? = some (a, .inr (0, fs))) (hv : fs[12]? = some v) (hd : decode cc pc = .ok (.getfield 33, 3)) (K : JR X Qf nL k n F ws lv (pc + 3) (v :: st)) : JR X Qf nL k n F ws lv pc (.ref a :: st) := r_get C inG_X0 12 (by decide) rfl kf_X0_33 q0 he hv hd K
theorem pf_X0_33 (C : Cx X RX0 cc nL ret rm tys) (q0 : Nat) {a : Nat} {fs : List Value} {x : Int32} (he : ws[q0]? = some (a, .inr (0, fs))) (hlen : fs.length = 16) (hd : decode cc pc = .ok (.putfield 33, 3)) (hw : ws.set q0 (a, .inr (0, fs.set 12 (.int x))) = ws') (K : JR X Qf nL k n F ws' lv (pc + 3) st) : JR X Qf nL k n F ws lv pc (.int x :: .ref a :: st) := r_put (ty := .int) C inG_X0 tyX0 tyX0_ok nmX0 12 (by decide) rfl (by decide +kernel) rfl kf_X0_33 q0 he rfl rfl (by rw [hlen]; decide) hd hw K
theorem kf_X4_188 : (RX4, 188, (TX0 12).1, (TX0 12).2.1, (TX0 12).2.2.1, "QuietDuty") ∈ nestF := List.mem_of_getElem? (i := 18) rfl
theorem gf_X4_188 (C : Cx X RX4 cc nL ret rm tys) (q0 : Nat) {a : Nat} {fs : List Value} {v : Value} (he : ws[q0]? = some (a, .inr (0, fs))) (hv : fs[12]? = some v) (hd : decode cc pc = .ok (.getfield 188, 3)) (K : JR X Qf nL k n F ws lv (pc + 3) (v :: st)) : JR X Qf nL k n F ws lv pc (.ref a :: st) := r_getN C inG_X0 12 (by decide) rfl kf_X4_188 q0 he hv hd K
theorem pf_X4_188 (C : Cx X RX4 cc nL ret rm tys) (q0 : Nat) {a : Nat} {fs : List Value} {x : Int32} (he : ws[q0]? = some (a, .inr (0, fs))) (hlen : fs.length = 16) (hd : decode cc pc = .ok (.putfield 188, 3)) (hw : ws.set q0 (a, .inr (0, fs.set 12 (.int x))) = ws') (K : JR X Qf nL k n F ws' lv (pc + 3) st) : JR X Qf nL k n F ws lv pc (.int x :: .ref a :: st) := r_putN (ty := .int) C inG_X0 tyX0 tyX0_ok nmX0 12 (by decide) rfl (by decide +kernel) rfl kf_X4_188 q0 he rfl rfl (by rw [hlen]; decide) hd hw K
theorem kf_X0_58 : Cond.fieldLink RX0 58 (TX0 13).1 (TX0 13).2.1 (TX0 13).2.2.1 ∈ gtbl := g_tb 106 (by decide +kernel) (by decide +kernel)
theorem gf_X0_58 (C : Cx X RX0 cc nL ret rm tys) (q0 : Nat) {a : Nat} {fs : List Value} {v : Value} (he : ws[q0]? = some (a, .inr (0, fs))) (hv : fs[13]? = some v) (hd : decode cc pc = .ok (.getfield 58, 3)) (K : JR X Qf nL k n F ws lv (pc + 3) (v :: st)) : JR X Qf nL k n F ws lv pc (.ref a :: st) := r_get C inG_X0 13 (by decide) rfl kf_X0_58 q0 he hv hd K
theorem pf_X0_58 (C : Cx X RX0 cc nL ret rm tys) (q0 : Nat) {a : Nat} {fs : List Value} {x : Int32} (he : ws[q0]? = some (a, .inr (0, fs))) (hlen : fs.length = 16) (hd : decode cc pc = .ok (.putfield 58, 3)) (hw : ws.set q0 (a, .inr (0, fs.set 13 (.int x))) = ws') (K : JR X Qf nL k n F ws' lv (pc + 3) st) : JR X Qf nL k n F ws lv pc (.int x :: .ref a :: st) := r_put (ty := .int) C inG_X0 tyX0 tyX0_ok nmX0 13 (by decide) rfl (by decide +kernel) rfl kf_X0_58 q0 he rfl rfl (by rw [hlen]; decide) hd hw K
theorem kf_X4_192 : (RX4, 192, (TX0 13).1, (TX0 13).2.1, (TX0 13).2.2.1, "QuietDuty") ∈ nestF := List.mem_of_getElem? (i := 19) rfl
theorem gf_X4_192 (C : Cx X RX4 cc nL ret rm tys) (q0 : Nat) {a : Nat} {fs : List Value} {v : Value} (he : ws[q0]? = some (a, .inr (0, fs))) (hv : fs[13]? = some v) (hd : decode cc pc = .ok (.getfield 192, 3)) (K : JR X Qf nL k n F ws lv (pc + 3) (v :: st)) : JR X Qf nL k n F ws lv pc (.ref a :: st) := r_getN C inG_X0 13 (by decide) rfl kf_X4_192 q0 he hv hd K
theorem pf_X4_192 (C : Cx X RX4 cc nL ret rm tys) (q0 : Nat) {a : Nat} {fs : List Value} {x : Int32} (he : ws[q0]? = some (a, .inr (0, fs))) (hlen : fs.length = 16) (hd : decode cc pc = .ok (.putfield 192, 3)) (hw : ws.set q0 (a, .inr (0, fs.set 13 (.int x))) = ws') (K : JR X Qf nL k n F ws' lv (pc + 3) st) : JR X Qf nL k n F ws lv pc (.int x :: .ref a :: st) := r_putN (ty := .int) C inG_X0 tyX0 tyX0_ok nmX0 13 (by decide) rfl (by decide +kernel) rfl kf_X4_192 q0 he rfl rfl (by rw [hlen]; decide) hd hw K
theorem kf_X0_37 : Cond.fieldLink RX0 37 (TX0 14).1 (TX0 14).2.1 (TX0 14).2.2.1 ∈ gtbl := g_tb 108 (by decide +kernel) (by decide +kernel)
theorem gf_X0_37 (C : Cx X RX0 cc nL ret rm tys) (q0 : Nat) {a : Nat} {fs : List Value} {v : Value} (he : ws[q0]? = some (a, .inr (0, fs))) (hv : fs[14]? = some v) (hd : decode cc pc = .ok (.getfield 37, 3)) (K : JR X Qf nL k n F ws lv (pc + 3) (v :: st)) : JR X Qf nL k n F ws lv pc (.ref a :: st) := r_get C inG_X0 14 (by decide) rfl kf_X0_37 q0 he hv hd K
theorem kf_X4_195 : (RX4, 195, (TX0 14).1, (TX0 14).2.1, (TX0 14).2.2.1, "QuietDuty") ∈ nestF := List.mem_of_getElem? (i := 20) rfl
theorem gf_X4_195 (C : Cx X RX4 cc nL ret rm tys) (q0 : Nat) {a : Nat} {fs : List Value} {v : Value} (he : ws[q0]? = some (a, .inr (0, fs))) (hv : fs[14]? = some v) (hd : decode cc pc = .ok (.getfield 195, 3)) (K : JR X Qf nL k n F ws lv (pc + 3) (v :: st)) : JR X Qf nL k n F ws lv pc (.ref a :: st) := r_getN C inG_X0 14 (by decide) rfl kf_X4_195 q0 he hv hd K
theorem kf_X0_40 : Cond.fieldLink RX0 40 (TX0 15).1 (TX0 15).2.1 (TX0 15).2.2.1 ∈ gtbl := g_tb 110 (by decide +kernel) (by decide +kernel)
theorem gf_X0_40 (C : Cx X RX0 cc nL ret rm tys) (q0 : Nat) {a : Nat} {fs : List Value} {v : Value} (he : ws[q0]? = some (a, .inr (0, fs))) (hv : fs[15]? = some v) (hd : decode cc pc = .ok (.getfield 40, 3)) (K : JR X Qf nL k n F ws lv (pc + 3) (v :: st)) : JR X Qf nL k n F ws lv pc (.ref a :: st) := r_get C inG_X0 15 (by decide) rfl kf_X0_40 q0 he hv hd K
theorem kf_X4_198 : (RX4, 198, (TX0 15).1, (TX0 15).2.1, (TX0 15).2.2.1, "QuietDuty") ∈ nestF := List.mem_of_getElem? (i := 21) rfl
theorem gf_X4_198 (C : Cx X RX4 cc nL ret rm tys) (q0 : Nat) {a : Nat} {fs : List Value} {v : Value} (he : ws[q0]? = some (a, .inr (0, fs))) (hv : fs[15]? = some v) (hd : decode cc pc = .ok (.getfield 198, 3)) (K : JR X Qf nL k n F ws lv (pc + 3) (v :: st)) : JR X Qf nL k n F ws lv pc (.ref a :: st) := r_getN C inG_X0 15 (by decide) rfl kf_X4_198 q0 he hv hd K
theorem kf_X4_13 : Cond.fieldLink RX4 13 (TX4 0).1 (TX4 0).2.1 (TX4 0).2.2.1 ∈ gtbl := g_tb 145 (by decide +kernel) (by decide +kernel)
theorem gf_X4_13 (C : Cx X RX4 cc nL ret rm tys) (q0 : Nat) {a : Nat} {fs : List Value} {v : Value} (he : ws[q0]? = some (a, .inr (4, fs))) (hv : fs[0]? = some v) (hd : decode cc pc = .ok (.getfield 13, 3)) (K : JR X Qf nL k n F ws lv (pc + 3) (v :: st)) : JR X Qf nL k n F ws lv pc (.ref a :: st) := r_get C inG_X4 0 (by decide) rfl kf_X4_13 q0 he hv hd K
theorem kf_X4_21 : Cond.fieldLink RX4 21 (TX4 1).1 (TX4 1).2.1 (TX4 1).2.2.1 ∈ gtbl := g_tb 146 (by decide +kernel) (by decide +kernel)
theorem gf_X4_21 (C : Cx X RX4 cc nL ret rm tys) (q0 : Nat) {a : Nat} {fs : List Value} {v : Value} (he : ws[q0]? = some (a, .inr (4, fs))) (hv : fs[1]? = some v) (hd : decode cc pc = .ok (.getfield 21, 3)) (K : JR X Qf nL k n F ws lv (pc + 3) (v :: st)) : JR X Qf nL k n F ws lv pc (.ref a :: st) := r_get C inG_X4 1 (by decide) rfl kf_X4_21 q0 he hv hd K
theorem kf_X4_28 : Cond.fieldLink RX4 28 (TX4 2).1 (TX4 2).2.1 (TX4 2).2.2.1 ∈ gtbl := g_tb 147 (by decide +kernel) (by decide +kernel)
theorem gf_X4_28 (C : Cx X RX4 cc nL ret rm tys) (q0 : Nat) {a : Nat} {fs : List Value} {v : Value} (he : ws[q0]? = some (a, .inr (4, fs))) (hv : fs[2]? = some v) (hd : decode cc pc = .ok (.getfield 28, 3)) (K : JR X Qf nL k n F ws lv (pc + 3) (v :: st)) : JR X Qf nL k n F ws lv pc (.ref a :: st) := r_get C inG_X4 2 (by decide) rfl kf_X4_28 q0 he hv hd K
theorem kf_X4_35 : Cond.fieldLink RX4 35 (TX4 3).1 (TX4 3).2.1 (TX4 3).2.2.1 ∈ gtbl := g_tb 148 (by decide +kernel) (by decide +kernel)
theorem gf_X4_35 (C : Cx X RX4 cc nL ret rm tys) (q0 : Nat) {a : Nat} {fs : List Value} {v : Value} (he : ws[q0]? = some (a, .inr (4, fs))) (hv : fs[3]? = some v) (hd : decode cc pc = .ok (.getfield 35, 3)) (K : JR X Qf nL k n F ws lv (pc + 3) (v :: st)) : JR X Qf nL k n F ws lv pc (.ref a :: st) := r_get C inG_X4 3 (by decide) rfl kf_X4_35 q0 he hv hd K
theorem pf_X4_35 (C : Cx X RX4 cc nL ret rm tys) (q0 : Nat) {a : Nat} {fs : List Value} {x : Nat} (he : ws[q0]? = some (a, .inr (4, fs))) (hlen : fs.length = 7) (hd : decode cc pc = .ok (.putfield 35, 3)) (hw : ws.set q0 (a, .inr (4, fs.set 3 (.ref x))) = ws') (K : JR X Qf nL k n F ws' lv (pc + 3) st) : JR X Qf nL k n F ws lv pc (.ref x :: .ref a :: st) := r_put (ty := (.object "QuietDuty$Border")) C inG_X4 tyX4 tyX4_ok nmX4 3 (by decide) rfl (by decide +kernel) rfl kf_X4_35 q0 he rfl rfl (by rw [hlen]; decide) hd hw K
theorem kf_X4_39 : Cond.fieldLink RX4 39 (TX4 4).1 (TX4 4).2.1 (TX4 4).2.2.1 ∈ gtbl := g_tb 149 (by decide +kernel) (by decide +kernel)
theorem gf_X4_39 (C : Cx X RX4 cc nL ret rm tys) (q0 : Nat) {a : Nat} {fs : List Value} {v : Value} (he : ws[q0]? = some (a, .inr (4, fs))) (hv : fs[4]? = some v) (hd : decode cc pc = .ok (.getfield 39, 3)) (K : JR X Qf nL k n F ws lv (pc + 3) (v :: st)) : JR X Qf nL k n F ws lv pc (.ref a :: st) := r_get C inG_X4 4 (by decide) rfl kf_X4_39 q0 he hv hd K
theorem pf_X4_39 (C : Cx X RX4 cc nL ret rm tys) (q0 : Nat) {a : Nat} {fs : List Value} {x : Nat} (he : ws[q0]? = some (a, .inr (4, fs))) (hlen : fs.length = 7) (hd : decode cc pc = .ok (.putfield 39, 3)) (hw : ws.set q0 (a, .inr (4, fs.set 4 (.ref x))) = ws') (K : JR X Qf nL k n F ws' lv (pc + 3) st) : JR X Qf nL k n F ws lv pc (.ref x :: .ref a :: st) := r_put (ty := (.object "QuietDuty$Border")) C inG_X4 tyX4 tyX4_ok nmX4 4 (by decide) rfl (by decide +kernel) rfl kf_X4_39 q0 he rfl rfl (by rw [hlen]; decide) hd hw K
theorem kf_X4_249 : Cond.fieldLink RX4 249 (TX4 5).1 (TX4 5).2.1 (TX4 5).2.2.1 ∈ gtbl := g_tb 150 (by decide +kernel) (by decide +kernel)
theorem gf_X4_249 (C : Cx X RX4 cc nL ret rm tys) (q0 : Nat) {a : Nat} {fs : List Value} {v : Value} (he : ws[q0]? = some (a, .inr (4, fs))) (hv : fs[5]? = some v) (hd : decode cc pc = .ok (.getfield 249, 3)) (K : JR X Qf nL k n F ws lv (pc + 3) (v :: st)) : JR X Qf nL k n F ws lv pc (.ref a :: st) := r_get C inG_X4 5 (by decide) rfl kf_X4_249 q0 he hv hd K
theorem pf_X4_249 (C : Cx X RX4 cc nL ret rm tys) (q0 : Nat) {a : Nat} {fs : List Value} {x : Int32} (he : ws[q0]? = some (a, .inr (4, fs))) (hlen : fs.length = 7) (hd : decode cc pc = .ok (.putfield 249, 3)) (hw : ws.set q0 (a, .inr (4, fs.set 5 (.int x))) = ws') (K : JR X Qf nL k n F ws' lv (pc + 3) st) : JR X Qf nL k n F ws lv pc (.int x :: .ref a :: st) := r_put (ty := .int) C inG_X4 tyX4 tyX4_ok nmX4 5 (by decide) rfl (by decide +kernel) rfl kf_X4_249 q0 he rfl rfl (by rw [hlen]; decide) hd hw K
theorem kf_X4_60 : Cond.fieldLink RX4 60 (TX4 6).1 (TX4 6).2.1 (TX4 6).2.2.1 ∈ gtbl := g_tb 151 (by decide +kernel) (by decide +kernel)
theorem gf_X4_60 (C : Cx X RX4 cc nL ret rm tys) (q0 : Nat) {a : Nat} {fs : List Value} {v : Value} (he : ws[q0]? = some (a, .inr (4, fs))) (hv : fs[6]? = some v) (hd : decode cc pc = .ok (.getfield 60, 3)) (K : JR X Qf nL k n F ws lv (pc + 3) (v :: st)) : JR X Qf nL k n F ws lv pc (.ref a :: st) := r_get C inG_X4 6 (by decide) rfl kf_X4_60 q0 he hv hd K
theorem pf_X4_60 (C : Cx X RX4 cc nL ret rm tys) (q0 : Nat) {a : Nat} {fs : List Value} {x : Int32} (he : ws[q0]? = some (a, .inr (4, fs))) (hlen : fs.length = 7) (hd : decode cc pc = .ok (.putfield 60, 3)) (hw : ws.set q0 (a, .inr (4, fs.set 6 (.int x))) = ws') (K : JR X Qf nL k n F ws' lv (pc + 3) st) : JR X Qf nL k n F ws lv pc (.int x :: .ref a :: st) := r_put (ty := .int) C inG_X4 tyX4 tyX4_ok nmX4 6 (by decide) rfl (by decide +kernel) rfl kf_X4_60 q0 he rfl rfl (by rw [hlen]; decide) hd hw K
theorem kf_X5_81 : Cond.fieldLink RX5 81 (TX5 0).1 (TX5 0).2.1 (TX5 0).2.2.1 ∈ gtbl := g_tb 547 (by decide +kernel) (by decide +kernel)
theorem gf_X5_81 (C : Cx X RX5 cc nL ret rm tys) (q0 : Nat) {a : Nat} {fs : List Value} {v : Value} (he : ws[q0]? = some (a, .inr (5, fs))) (hv : fs[0]? = some v) (hd : decode cc pc = .ok (.getfield 81, 3)) (K : JR X Qf nL k n F ws lv (pc + 3) (v :: st)) : JR X Qf nL k n F ws lv pc (.ref a :: st) := r_get C inG_X5 0 (by decide) rfl kf_X5_81 q0 he hv hd K
theorem pf_X5_81 (C : Cx X RX5 cc nL ret rm tys) (q0 : Nat) {a : Nat} {fs : List Value} {x : Int32} (he : ws[q0]? = some (a, .inr (5, fs))) (hlen : fs.length = 34) (hd : decode cc pc = .ok (.putfield 81, 3)) (hw : ws.set q0 (a, .inr (5, fs.set 0 (.int x))) = ws') (K : JR X Qf nL k n F ws' lv (pc + 3) st) : JR X Qf nL k n F ws lv pc (.int x :: .ref a :: st) := r_put (ty := .int) C inG_X5 tyX5 tyX5_ok nmX5 0 (by decide) rfl (by decide +kernel) rfl kf_X5_81 q0 he rfl rfl (by rw [hlen]; decide) hd hw K
theorem kf_X5_88 : Cond.fieldLink RX5 88 (TX5 1).1 (TX5 1).2.1 (TX5 1).2.2.1 ∈ gtbl := g_tb 548 (by decide +kernel) (by decide +kernel)
theorem gf_X5_88 (C : Cx X RX5 cc nL ret rm tys) (q0 : Nat) {a : Nat} {fs : List Value} {v : Value} (he : ws[q0]? = some (a, .inr (5, fs))) (hv : fs[1]? = some v) (hd : decode cc pc = .ok (.getfield 88, 3)) (K : JR X Qf nL k n F ws lv (pc + 3) (v :: st)) : JR X Qf nL k n F ws lv pc (.ref a :: st) := r_get C inG_X5 1 (by decide) rfl kf_X5_88 q0 he hv hd K
theorem pf_X5_88 (C : Cx X RX5 cc nL ret rm tys) (q0 : Nat) {a : Nat} {fs : List Value} {x : Int32} (he : ws[q0]? = some (a, .inr (5, fs))) (hlen : fs.length = 34) (hd : decode cc pc = .ok (.putfield 88, 3)) (hw : ws.set q0 (a, .inr (5, fs.set 1 (.int x))) = ws') (K : JR X Qf nL k n F ws' lv (pc + 3) st) : JR X Qf nL k n F ws lv pc (.int x :: .ref a :: st) := r_put (ty := .int) C inG_X5 tyX5 tyX5_ok nmX5 1 (by decide) rfl (by decide +kernel) rfl kf_X5_88 q0 he rfl rfl (by rw [hlen]; decide) hd hw K
theorem kf_X5_7 : Cond.fieldLink RX5 7 (TX5 2).1 (TX5 2).2.1 (TX5 2).2.2.1 ∈ gtbl := g_tb 549 (by decide +kernel) (by decide +kernel)
theorem gf_X5_7 (C : Cx X RX5 cc nL ret rm tys) (q0 : Nat) {a : Nat} {fs : List Value} {v : Value} (he : ws[q0]? = some (a, .inr (5, fs))) (hv : fs[2]? = some v) (hd : decode cc pc = .ok (.getfield 7, 3)) (K : JR X Qf nL k n F ws lv (pc + 3) (v :: st)) : JR X Qf nL k n F ws lv pc (.ref a :: st) := r_get C inG_X5 2 (by decide) rfl kf_X5_7 q0 he hv hd K
theorem kf_X5_13 : Cond.fieldLink RX5 13 (TX5 3).1 (TX5 3).2.1 (TX5 3).2.2.1 ∈ gtbl := g_tb 550 (by decide +kernel) (by decide +kernel)
theorem gf_X5_13 (C : Cx X RX5 cc nL ret rm tys) (q0 : Nat) {a : Nat} {fs : List Value} {v : Value} (he : ws[q0]? = some (a, .inr (5, fs))) (hv : fs[3]? = some v) (hd : decode cc pc = .ok (.getfield 13, 3)) (K : JR X Qf nL k n F ws lv (pc + 3) (v :: st)) : JR X Qf nL k n F ws lv pc (.ref a :: st) := r_get C inG_X5 3 (by decide) rfl kf_X5_13 q0 he hv hd K
theorem kf_X5_95 : Cond.fieldLink RX5 95 (TX5 4).1 (TX5 4).2.1 (TX5 4).2.2.1 ∈ gtbl := g_tb 551 (by decide +kernel) (by decide +kernel)
theorem gf_X5_95 (C : Cx X RX5 cc nL ret rm tys) (q0 : Nat) {a : Nat} {fs : List Value} {v : Value} (he : ws[q0]? = some (a, .inr (5, fs))) (hv : fs[4]? = some v) (hd : decode cc pc = .ok (.getfield 95, 3)) (K : JR X Qf nL k n F ws lv (pc + 3) (v :: st)) : JR X Qf nL k n F ws lv pc (.ref a :: st) := r_get C inG_X5 4 (by decide) rfl kf_X5_95 q0 he hv hd K
theorem pf_X5_95 (C : Cx X RX5 cc nL ret rm tys) (q0 : Nat) {a : Nat} {fs : List Value} {x : Int32} (he : ws[q0]? = some (a, .inr (5, fs))) (hlen : fs.length = 34) (hd : decode cc pc = .ok (.putfield 95, 3)) (hw : ws.set q0 (a, .inr (5, fs.set 4 (.int x))) = ws') (K : JR X Qf nL k n F ws' lv (pc + 3) st) : JR X Qf nL k n F ws lv pc (.int x :: .ref a :: st) := r_put (ty := .int) C inG_X5 tyX5 tyX5_ok nmX5 4 (by decide) rfl (by decide +kernel) rfl kf_X5_95 q0 he rfl rfl (by rw [hlen]; decide) hd hw K
theorem kf_X5_16 : Cond.fieldLink RX5 16 (TX5 5).1 (TX5 5).2.1 (TX5 5).2.2.1 ∈ gtbl := g_tb 552 (by decide +kernel) (by decide +kernel)
theorem gf_X5_16 (C : Cx X RX5 cc nL ret rm tys) (q0 : Nat) {a : Nat} {fs : List Value} {v : Value} (he : ws[q0]? = some (a, .inr (5, fs))) (hv : fs[5]? = some v) (hd : decode cc pc = .ok (.getfield 16, 3)) (K : JR X Qf nL k n F ws lv (pc + 3) (v :: st)) : JR X Qf nL k n F ws lv pc (.ref a :: st) := r_get C inG_X5 5 (by decide) rfl kf_X5_16 q0 he hv hd K
theorem kf_X5_19 : Cond.fieldLink RX5 19 (TX5 6).1 (TX5 6).2.1 (TX5 6).2.2.1 ∈ gtbl := g_tb 553 (by decide +kernel) (by decide +kernel)
theorem gf_X5_19 (C : Cx X RX5 cc nL ret rm tys) (q0 : Nat) {a : Nat} {fs : List Value} {v : Value} (he : ws[q0]? = some (a, .inr (5, fs))) (hv : fs[6]? = some v) (hd : decode cc pc = .ok (.getfield 19, 3)) (K : JR X Qf nL k n F ws lv (pc + 3) (v :: st)) : JR X Qf nL k n F ws lv pc (.ref a :: st) := r_get C inG_X5 6 (by decide) rfl kf_X5_19 q0 he hv hd K
theorem kf_X5_22 : Cond.fieldLink RX5 22 (TX5 7).1 (TX5 7).2.1 (TX5 7).2.2.1 ∈ gtbl := g_tb 554 (by decide +kernel) (by decide +kernel)
theorem gf_X5_22 (C : Cx X RX5 cc nL ret rm tys) (q0 : Nat) {a : Nat} {fs : List Value} {v : Value} (he : ws[q0]? = some (a, .inr (5, fs))) (hv : fs[7]? = some v) (hd : decode cc pc = .ok (.getfield 22, 3)) (K : JR X Qf nL k n F ws lv (pc + 3) (v :: st)) : JR X Qf nL k n F ws lv pc (.ref a :: st) := r_get C inG_X5 7 (by decide) rfl kf_X5_22 q0 he hv hd K
theorem kf_X5_25 : Cond.fieldLink RX5 25 (TX5 8).1 (TX5 8).2.1 (TX5 8).2.2.1 ∈ gtbl := g_tb 555 (by decide +kernel) (by decide +kernel)
theorem gf_X5_25 (C : Cx X RX5 cc nL ret rm tys) (q0 : Nat) {a : Nat} {fs : List Value} {v : Value} (he : ws[q0]? = some (a, .inr (5, fs))) (hv : fs[8]? = some v) (hd : decode cc pc = .ok (.getfield 25, 3)) (K : JR X Qf nL k n F ws lv (pc + 3) (v :: st)) : JR X Qf nL k n F ws lv pc (.ref a :: st) := r_get C inG_X5 8 (by decide) rfl kf_X5_25 q0 he hv hd K
theorem kf_X5_28 : Cond.fieldLink RX5 28 (TX5 9).1 (TX5 9).2.1 (TX5 9).2.2.1 ∈ gtbl := g_tb 556 (by decide +kernel) (by decide +kernel)
theorem gf_X5_28 (C : Cx X RX5 cc nL ret rm tys) (q0 : Nat) {a : Nat} {fs : List Value} {v : Value} (he : ws[q0]? = some (a, .inr (5, fs))) (hv : fs[9]? = some v) (hd : decode cc pc = .ok (.getfield 28, 3)) (K : JR X Qf nL k n F ws lv (pc + 3) (v :: st)) : JR X Qf nL k n F ws lv pc (.ref a :: st) := r_get C inG_X5 9 (by decide) rfl kf_X5_28 q0 he hv hd K
theorem kf_X5_158 : Cond.fieldLink RX5 158 (TX5 10).1 (TX5 10).2.1 (TX5 10).2.2.1 ∈ gtbl := g_tb 557 (by decide +kernel) (by decide +kernel)
theorem gf_X5_158 (C : Cx X RX5 cc nL ret rm tys) (q0 : Nat) {a : Nat} {fs : List Value} {v : Value} (he : ws[q0]? = some (a, .inr (5, fs))) (hv : fs[10]? = some v) (hd : decode cc pc = .ok (.getfield 158, 3)) (K : JR X Qf nL k n F ws lv (pc + 3) (v :: st)) : JR X Qf nL k n F ws lv pc (.ref a :: st) := r_get C inG_X5 10 (by decide) rfl kf_X5_158 q0 he hv hd K
theorem pf_X5_158 (C : Cx X RX5 cc nL ret rm tys) (q0 : Nat) {a : Nat} {fs : List Value} {x : Int32} (he : ws[q0]? = some (a, .inr (5, fs))) (hlen : fs.length = 34) (hd : decode cc pc = .ok (.putfield 158, 3)) (hw : ws.set q0 (a, .inr (5, fs.set 10 (.int x))) = ws') (K : JR X Qf nL k n F ws' lv (pc + 3) st) : JR X Qf nL k n F ws lv pc (.int x :: .ref a :: st) := r_put (ty := .int) C inG_X5 tyX5 tyX5_ok nmX5 10 (by decide) rfl (by decide +kernel) rfl kf_X5_158 q0 he rfl rfl (by rw [hlen]; decide) hd hw K
theorem kf_X5_151 : Cond.fieldLink RX5 151 (TX5 11).1 (TX5 11).2.1 (TX5 11).2.2.1 ∈ gtbl := g_tb 558 (by decide +kernel) (by decide +kernel)
theorem gf_X5_151 (C : Cx X RX5 cc nL ret rm tys) (q0 : Nat) {a : Nat} {fs : List Value} {v : Value} (he : ws[q0]? = some (a, .inr (5, fs))) (hv : fs[11]? = some v) (hd : decode cc pc = .ok (.getfield 151, 3)) (K : JR X Qf nL k n F ws lv (pc + 3) (v :: st)) : JR X Qf nL k n F ws lv pc (.ref a :: st) := r_get C inG_X5 11 (by decide) rfl kf_X5_151 q0 he hv hd K
theorem pf_X5_151 (C : Cx X RX5 cc nL ret rm tys) (q0 : Nat) {a : Nat} {fs : List Value} {x : Int32} (he : ws[q0]? = some (a, .inr (5, fs))) (hlen : fs.length = 34) (hd : decode cc pc = .ok (.putfield 151, 3)) (hw : ws.set q0 (a, .inr (5, fs.set 11 (.int x))) = ws') (K : JR X Qf nL k n F ws' lv (pc + 3) st) : JR X Qf nL k n F ws lv pc (.int x :: .ref a :: st) := r_put (ty := .int) C inG_X5 tyX5 tyX5_ok nmX5 11 (by decide) rfl (by decide +kernel) rfl kf_X5_151 q0 he rfl rfl (by rw [hlen]; decide) hd hw K
theorem kf_X5_161 : Cond.fieldLink RX5 161 (TX5 12).1 (TX5 12).2.1 (TX5 12).2.2.1 ∈ gtbl := g_tb 559 (by decide +kernel) (by decide +kernel)
theorem gf_X5_161 (C : Cx X RX5 cc nL ret rm tys) (q0 : Nat) {a : Nat} {fs : List Value} {v : Value} (he : ws[q0]? = some (a, .inr (5, fs))) (hv : fs[12]? = some v) (hd : decode cc pc = .ok (.getfield 161, 3)) (K : JR X Qf nL k n F ws lv (pc + 3) (v :: st)) : JR X Qf nL k n F ws lv pc (.ref a :: st) := r_get C inG_X5 12 (by decide) rfl kf_X5_161 q0 he hv hd K
theorem pf_X5_161 (C : Cx X RX5 cc nL ret rm tys) (q0 : Nat) {a : Nat} {fs : List Value} {x : Int32} (he : ws[q0]? = some (a, .inr (5, fs))) (hlen : fs.length = 34) (hd : decode cc pc = .ok (.putfield 161, 3)) (hw : ws.set q0 (a, .inr (5, fs.set 12 (.int x))) = ws') (K : JR X Qf nL k n F ws' lv (pc + 3) st) : JR X Qf nL k n F ws lv pc (.int x :: .ref a :: st) := r_put (ty := .int) C inG_X5 tyX5 tyX5_ok nmX5 12 (by decide) rfl (by decide +kernel) rfl kf_X5_161 q0 he rfl rfl (by rw [hlen]; decide) hd hw K
theorem kf_X5_73 : Cond.fieldLink RX5 73 (TX5 13).1 (TX5 13).2.1 (TX5 13).2.2.1 ∈ gtbl := g_tb 560 (by decide +kernel) (by decide +kernel)
theorem gf_X5_73 (C : Cx X RX5 cc nL ret rm tys) (q0 : Nat) {a : Nat} {fs : List Value} {v : Value} (he : ws[q0]? = some (a, .inr (5, fs))) (hv : fs[13]? = some v) (hd : decode cc pc = .ok (.getfield 73, 3)) (K : JR X Qf nL k n F ws lv (pc + 3) (v :: st)) : JR X Qf nL k n F ws lv pc (.ref a :: st) := r_get C inG_X5 13 (by decide) rfl kf_X5_73 q0 he hv hd K
theorem pf_X5_73 (C : Cx X RX5 cc nL ret rm tys) (q0 : Nat) {a : Nat} {fs : List Value} {x : Int32} (he : ws[q0]? = some (a, .inr (5, fs))) (hlen : fs.length = 34) (hd : decode cc pc = .ok (.putfield 73, 3)) (hw : ws.set q0 (a, .inr (5, fs.set 13 (.int x))) = ws') (K : JR X Qf nL k n F ws' lv (pc + 3) st) : JR X Qf nL k n F ws lv pc (.int x :: .ref a :: st) := r_put (ty := .int) C inG_X5 tyX5 tyX5_ok nmX5 13 (by decide) rfl (by decide +kernel) rfl kf_X5_73 q0 he rfl rfl (by rw [hlen]; decide) hd hw K
theorem kf_X5_100 : Cond.fieldLink RX5 100 (TX5 14).1 (TX5 14).2.1 (TX5 14).2.2.1 ∈ gtbl := g_tb 561 (by decide +kernel) (by decide +kernel)
theorem gf_X5_100 (C : Cx X RX5 cc nL ret rm tys) (q0 : Nat) {a : Nat} {fs : List Value} {v : Value} (he : ws[q0]? = some (a, .inr (5, fs))) (hv : fs[14]? = some v) (hd : decode cc pc = .ok (.getfield 100, 3)) (K : JR X Qf nL k n F ws lv (pc + 3) (v :: st)) : JR X Qf nL k n F ws lv pc (.ref a :: st) := r_get C inG_X5 14 (by decide) rfl kf_X5_100 q0 he hv hd K
theorem pf_X5_100 (C : Cx X RX5 cc nL ret rm tys) (q0 : Nat) {a : Nat} {fs : List Value} {x : Int32} (he : ws[q0]? = some (a, .inr (5, fs))) (hlen : fs.length = 34) (hd : decode cc pc = .ok (.putfield 100, 3)) (hw : ws.set q0 (a, .inr (5, fs.set 14 (.int x))) = ws') (K : JR X Qf nL k n F ws' lv (pc + 3) st) : JR X Qf nL k n F ws lv pc (.int x :: .ref a :: st) := r_put (ty := .int) C inG_X5 tyX5 tyX5_ok nmX5 14 (by decide) rfl (by decide +kernel) rfl kf_X5_100 q0 he rfl rfl (by rw [hlen]; decide) hd hw K
theorem kf_X5_119 : Cond.fieldLink RX5 119 (TX5 15).1 (TX5 15).2.1 (TX5 15).2.2.1 ∈ gtbl := g_tb 562 (by decide +kernel) (by decide +kernel)
theorem gf_X5_119 (C : Cx X RX5 cc nL ret rm tys) (q0 : Nat) {a : Nat} {fs : List Value} {v : Value} (he : ws[q0]? = some (a, .inr (5, fs))) (hv : fs[15]? = some v) (hd : decode cc pc = .ok (.getfield 119, 3)) (K : JR X Qf nL k n F ws lv (pc + 3) (v :: st)) : JR X Qf nL k n F ws lv pc (.ref a :: st) := r_get C inG_X5 15 (by decide) rfl kf_X5_119 q0 he hv hd K
theorem pf_X5_119 (C : Cx X RX5 cc nL ret rm tys) (q0 : Nat) {a : Nat} {fs : List Value} {x : Int32} (he : ws[q0]? = some (a, .inr (5, fs))) (hlen : fs.length = 34) (hd : decode cc pc = .ok (.putfield 119, 3)) (hw : ws.set q0 (a, .inr (5, fs.set 15 (.int x))) = ws') (K : JR X Qf nL k n F ws' lv (pc + 3) st) : JR X Qf nL k n F ws lv pc (.int x :: .ref a :: st) := r_put (ty := .int) C inG_X5 tyX5 tyX5_ok nmX5 15 (by decide) rfl (by decide +kernel) rfl kf_X5_119 q0 he rfl rfl (by rw [hlen]; decide) hd hw K
theorem kf_X5_109 : Cond.fieldLink RX5 109 (TX5 16).1 (TX5 16).2.1 (TX5 16).2.2.1 ∈ gtbl := g_tb 563 (by decide +kernel) (by decide +kernel)
theorem gf_X5_109 (C : Cx X RX5 cc nL ret rm tys) (q0 : Nat) {a : Nat} {fs : List Value} {v : Value} (he : ws[q0]? = some (a, .inr (5, fs))) (hv : fs[16]? = some v) (hd : decode cc pc = .ok (.getfield 109, 3)) (K : JR X Qf nL k n F ws lv (pc + 3) (v :: st)) : JR X Qf nL k n F ws lv pc (.ref a :: st) := r_get C inG_X5 16 (by decide) rfl kf_X5_109 q0 he hv hd K
theorem pf_X5_109 (C : Cx X RX5 cc nL ret rm tys) (q0 : Nat) {a : Nat} {fs : List Value} {x : Int32} (he : ws[q0]? = some (a, .inr (5, fs))) (hlen : fs.length = 34) (hd : decode cc pc = .ok (.putfield 109, 3)) (hw : ws.set q0 (a, .inr (5, fs.set 16 (.int x))) = ws') (K : JR X Qf nL k n F ws' lv (pc + 3) st) : JR X Qf nL k n F ws lv pc (.int x :: .ref a :: st) := r_put (ty := .int) C inG_X5 tyX5 tyX5_ok nmX5 16 (by decide) rfl (by decide +kernel) rfl kf_X5_109 q0 he rfl rfl (by rw [hlen]; decide) hd hw K
theorem kf_X5_116 : Cond.fieldLink RX5 116 (TX5 17).1 (TX5 17).2.1 (TX5 17).2.2.1 ∈ gtbl := g_tb 564 (by decide +kernel) (by decide +kernel)
theorem gf_X5_116 (C : Cx X RX5 cc nL ret rm tys) (q0 : Nat) {a : Nat} {fs : List Value} {v : Value} (he : ws[q0]? = some (a, .inr (5, fs))) (hv : fs[17]? = some v) (hd : decode cc pc = .ok (.getfield 116, 3)) (K : JR X Qf nL k n F ws lv (pc + 3) (v :: st)) : JR X Qf nL k n F ws lv pc (.ref a :: st) := r_get C inG_X5 17 (by decide) rfl kf_X5_116 q0 he hv hd K
theorem pf_X5_116 (C : Cx X RX5 cc nL ret rm tys) (q0 : Nat) {a : Nat} {fs : List Value} {x : Int32} (he : ws[q0]? = some (a, .inr (5, fs))) (hlen : fs.length = 34) (hd : decode cc pc = .ok (.putfield 116, 3)) (hw : ws.set q0 (a, .inr (5, fs.set 17 (.int x))) = ws') (K : JR X Qf nL k n F ws' lv (pc + 3) st) : JR X Qf nL k n F ws lv pc (.int x :: .ref a :: st) := r_put (ty := .int) C inG_X5 tyX5 tyX5_ok nmX5 17 (by decide) rfl (by decide +kernel) rfl kf_X5_116 q0 he rfl rfl (by rw [hlen]; decide) hd hw K
theorem kf_X5_31 : Cond.fieldLink RX5 31 (TX5 18).1 (TX5 18).2.1 (TX5 18).2.2.1 ∈ gtbl := g_tb 565 (by decide +kernel) (by decide +kernel)
theorem gf_X5_31 (C : Cx X RX5 cc nL ret rm tys) (q0 : Nat) {a : Nat} {fs : List Value} {v : Value} (he : ws[q0]? = some (a, .inr (5, fs))) (hv : fs[18]? = some v) (hd : decode cc pc = .ok (.getfield 31, 3)) (K : JR X Qf nL k n F ws lv (pc + 3) (v :: st)) : JR X Qf nL k n F ws lv pc (.ref a :: st) := r_get C inG_X5 18 (by decide) rfl kf_X5_31 q0 he hv hd K
theorem kf_X5_34 : Cond.fieldLink RX5 34 (TX5 19).1 (TX5 19).2.1 (TX5 19).2.2.1 ∈ gtbl := g_tb 566 (by decide +kernel) (by decide +kernel)
theorem gf_X5_34 (C : Cx X RX5 cc nL ret rm tys) (q0 : Nat) {a : Nat} {fs : List Value} {v : Value} (he : ws[q0]? = some (a, .inr (5, fs))) (hv : fs[19]? = some v) (hd : decode cc pc = .ok (.getfield 34, 3)) (K : JR X Qf nL k n F ws lv (pc + 3) (v :: st)) : JR X Qf nL k n F ws lv pc (.ref a :: st) := r_get C inG_X5 19 (by decide) rfl kf_X5_34 q0 he hv hd K
theorem kf_X5_37 : Cond.fieldLink RX5 37 (TX5 20).1 (TX5 20).2.1 (TX5 20).2.2.1 ∈ gtbl := g_tb 567 (by decide +kernel) (by decide +kernel)
theorem gf_X5_37 (C : Cx X RX5 cc nL ret rm tys) (q0 : Nat) {a : Nat} {fs : List Value} {v : Value} (he : ws[q0]? = some (a, .inr (5, fs))) (hv : fs[20]? = some v) (hd : decode cc pc = .ok (.getfield 37, 3)) (K : JR X Qf nL k n F ws lv (pc + 3) (v :: st)) : JR X Qf nL k n F ws lv pc (.ref a :: st) := r_get C inG_X5 20 (by decide) rfl kf_X5_37 q0 he hv hd K
theorem kf_X5_40 : Cond.fieldLink RX5 40 (TX5 21).1 (TX5 21).2.1 (TX5 21).2.2.1 ∈ gtbl := g_tb 568 (by decide +kernel) (by decide +kernel)
theorem gf_X5_40 (C : Cx X RX5 cc nL ret rm tys) (q0 : Nat) {a : Nat} {fs : List Value} {v : Value} (he : ws[q0]? = some (a, .inr (5, fs))) (hv : fs[21]? = some v) (hd : decode cc pc = .ok (.getfield 40, 3)) (K : JR X Qf nL k n F ws lv (pc + 3) (v :: st)) : JR X Qf nL k n F ws lv pc (.ref a :: st) := r_get C inG_X5 21 (by decide) rfl kf_X5_40 q0 he hv hd K
theorem kf_X5_43 : Cond.fieldLink RX5 43 (TX5 22).1 (TX5 22).2.1 (TX5 22).2.2.1 ∈ gtbl := g_tb 569 (by decide +kernel) (by decide +kernel)
theorem gf_X5_43 (C : Cx X RX5 cc nL ret rm tys) (q0 : Nat) {a : Nat} {fs : List Value} {v : Value} (he : ws[q0]? = some (a, .inr (5, fs))) (hv : fs[22]? = some v) (hd : decode cc pc = .ok (.getfield 43, 3)) (K : JR X Qf nL k n F ws lv (pc + 3) (v :: st)) : JR X Qf nL k n F ws lv pc (.ref a :: st) := r_get C inG_X5 22 (by decide) rfl kf_X5_43 q0 he hv hd K
theorem kf_X5_46 : Cond.fieldLink RX5 46 (TX5 23).1 (TX5 23).2.1 (TX5 23).2.2.1 ∈ gtbl := g_tb 570 (by decide +kernel) (by decide +kernel)
theorem gf_X5_46 (C : Cx X RX5 cc nL ret rm tys) (q0 : Nat) {a : Nat} {fs : List Value} {v : Value} (he : ws[q0]? = some (a, .inr (5, fs))) (hv : fs[23]? = some v) (hd : decode cc pc = .ok (.getfield 46, 3)) (K : JR X Qf nL k n F ws lv (pc + 3) (v :: st)) : JR X Qf nL k n F ws lv pc (.ref a :: st) := r_get C inG_X5 23 (by decide) rfl kf_X5_46 q0 he hv hd K
theorem kf_X5_49 : Cond.fieldLink RX5 49 (TX5 24).1 (TX5 24).2.1 (TX5 24).2.2.1 ∈ gtbl := g_tb 571 (by decide +kernel) (by decide +kernel)
theorem gf_X5_49 (C : Cx X RX5 cc nL ret rm tys) (q0 : Nat) {a : Nat} {fs : List Value} {v : Value} (he : ws[q0]? = some (a, .inr (5, fs))) (hv : fs[24]? = some v) (hd : decode cc pc = .ok (.getfield 49, 3)) (K : JR X Qf nL k n F ws lv (pc + 3) (v :: st)) : JR X Qf nL k n F ws lv pc (.ref a :: st) := r_get C inG_X5 24 (by decide) rfl kf_X5_49 q0 he hv hd K
theorem kf_X5_52 : Cond.fieldLink RX5 52 (TX5 25).1 (TX5 25).2.1 (TX5 25).2.2.1 ∈ gtbl := g_tb 572 (by decide +kernel) (by decide +kernel)
theorem gf_X5_52 (C : Cx X RX5 cc nL ret rm tys) (q0 : Nat) {a : Nat} {fs : List Value} {v : Value} (he : ws[q0]? = some (a, .inr (5, fs))) (hv : fs[25]? = some v) (hd : decode cc pc = .ok (.getfield 52, 3)) (K : JR X Qf nL k n F ws lv (pc + 3) (v :: st)) : JR X Qf nL k n F ws lv pc (.ref a :: st) := r_get C inG_X5 25 (by decide) rfl kf_X5_52 q0 he hv hd K
theorem kf_X5_164 : Cond.fieldLink RX5 164 (TX5 26).1 (TX5 26).2.1 (TX5 26).2.2.1 ∈ gtbl := g_tb 573 (by decide +kernel) (by decide +kernel)
theorem gf_X5_164 (C : Cx X RX5 cc nL ret rm tys) (q0 : Nat) {a : Nat} {fs : List Value} {v : Value} (he : ws[q0]? = some (a, .inr (5, fs))) (hv : fs[26]? = some v) (hd : decode cc pc = .ok (.getfield 164, 3)) (K : JR X Qf nL k n F ws lv (pc + 3) (v :: st)) : JR X Qf nL k n F ws lv pc (.ref a :: st) := r_get C inG_X5 26 (by decide) rfl kf_X5_164 q0 he hv hd K
theorem pf_X5_164 (C : Cx X RX5 cc nL ret rm tys) (q0 : Nat) {a : Nat} {fs : List Value} {x : Int32} (he : ws[q0]? = some (a, .inr (5, fs))) (hlen : fs.length = 34) (hd : decode cc pc = .ok (.putfield 164, 3)) (hw : ws.set q0 (a, .inr (5, fs.set 26 (.int x))) = ws') (K : JR X Qf nL k n F ws' lv (pc + 3) st) : JR X Qf nL k n F ws lv pc (.int x :: .ref a :: st) := r_put (ty := .int) C inG_X5 tyX5 tyX5_ok nmX5 26 (by decide) rfl (by decide +kernel) rfl kf_X5_164 q0 he rfl rfl (by rw [hlen]; decide) hd hw K
theorem kf_X5_55 : Cond.fieldLink RX5 55 (TX5 27).1 (TX5 27).2.1 (TX5 27).2.2.1 ∈ gtbl := g_tb 574 (by decide +kernel) (by decide +kernel)
theorem gf_X5_55 (C : Cx X RX5 cc nL ret rm tys) (q0 : Nat) {a : Nat} {fs : List Value} {v : Value} (he : ws[q0]? = some (a, .inr (5, fs))) (hv : fs[27]? = some v) (hd : decode cc pc = .ok (.getfield 55, 3)) (K : JR X Qf nL k n F ws lv (pc + 3) (v :: st)) : JR X Qf nL k n F ws lv pc (.ref a :: st) := r_get C inG_X5 27 (by decide) rfl kf_X5_55 q0 he hv hd K
theorem kf_X5_58 : Cond.fieldLink RX5 58 (TX5 28).1 (TX5 28).2.1 (TX5 28).2.2.1 ∈ gtbl := g_tb 575 (by decide +kernel) (by decide +kernel)
theorem gf_X5_58 (C : Cx X RX5 cc nL ret rm tys) (q0 : Nat) {a : Nat} {fs : List Value} {v : Value} (he : ws[q0]? = some (a, .inr (5, fs))) (hv : fs[28]? = some v) (hd : decode cc pc = .ok (.getfield 58, 3)) (K : JR X Qf nL k n F ws lv (pc + 3) (v :: st)) : JR X Qf nL k n F ws lv pc (.ref a :: st) := r_get C inG_X5 28 (by decide) rfl kf_X5_58 q0 he hv hd K
theorem kf_X5_61 : Cond.fieldLink RX5 61 (TX5 29).1 (TX5 29).2.1 (TX5 29).2.2.1 ∈ gtbl := g_tb 576 (by decide +kernel) (by decide +kernel)
theorem gf_X5_61 (C : Cx X RX5 cc nL ret rm tys) (q0 : Nat) {a : Nat} {fs : List Value} {v : Value} (he : ws[q0]? = some (a, .inr (5, fs))) (hv : fs[29]? = some v) (hd : decode cc pc = .ok (.getfield 61, 3)) (K : JR X Qf nL k n F ws lv (pc + 3) (v :: st)) : JR X Qf nL k n F ws lv pc (.ref a :: st) := r_get C inG_X5 29 (by decide) rfl kf_X5_61 q0 he hv hd K
theorem kf_X5_64 : Cond.fieldLink RX5 64 (TX5 30).1 (TX5 30).2.1 (TX5 30).2.2.1 ∈ gtbl := g_tb 577 (by decide +kernel) (by decide +kernel)
theorem gf_X5_64 (C : Cx X RX5 cc nL ret rm tys) (q0 : Nat) {a : Nat} {fs : List Value} {v : Value} (he : ws[q0]? = some (a, .inr (5, fs))) (hv : fs[30]? = some v) (hd : decode cc pc = .ok (.getfield 64, 3)) (K : JR X Qf nL k n F ws lv (pc + 3) (v :: st)) : JR X Qf nL k n F ws lv pc (.ref a :: st) := r_get C inG_X5 30 (by decide) rfl kf_X5_64 q0 he hv hd K
theorem kf_X5_67 : Cond.fieldLink RX5 67 (TX5 31).1 (TX5 31).2.1 (TX5 31).2.2.1 ∈ gtbl := g_tb 578 (by decide +kernel) (by decide +kernel)
theorem gf_X5_67 (C : Cx X RX5 cc nL ret rm tys) (q0 : Nat) {a : Nat} {fs : List Value} {v : Value} (he : ws[q0]? = some (a, .inr (5, fs))) (hv : fs[31]? = some v) (hd : decode cc pc = .ok (.getfield 67, 3)) (K : JR X Qf nL k n F ws lv (pc + 3) (v :: st)) : JR X Qf nL k n F ws lv pc (.ref a :: st) := r_get C inG_X5 31 (by decide) rfl kf_X5_67 q0 he hv hd K
theorem kf_X5_70 : Cond.fieldLink RX5 70 (TX5 32).1 (TX5 32).2.1 (TX5 32).2.2.1 ∈ gtbl := g_tb 579 (by decide +kernel) (by decide +kernel)
theorem gf_X5_70 (C : Cx X RX5 cc nL ret rm tys) (q0 : Nat) {a : Nat} {fs : List Value} {v : Value} (he : ws[q0]? = some (a, .inr (5, fs))) (hv : fs[32]? = some v) (hd : decode cc pc = .ok (.getfield 70, 3)) (K : JR X Qf nL k n F ws lv (pc + 3) (v :: st)) : JR X Qf nL k n F ws lv pc (.ref a :: st) := r_get C inG_X5 32 (by decide) rfl kf_X5_70 q0 he hv hd K
theorem kf_X5_235 : Cond.fieldLink RX5 235 (TX5 33).1 (TX5 33).2.1 (TX5 33).2.2.1 ∈ gtbl := g_tb 580 (by decide +kernel) (by decide +kernel)
theorem gf_X5_235 (C : Cx X RX5 cc nL ret rm tys) (q0 : Nat) {a : Nat} {fs : List Value} {v : Value} (he : ws[q0]? = some (a, .inr (5, fs))) (hv : fs[33]? = some v) (hd : decode cc pc = .ok (.getfield 235, 3)) (K : JR X Qf nL k n F ws lv (pc + 3) (v :: st)) : JR X Qf nL k n F ws lv pc (.ref a :: st) := r_get C inG_X5 33 (by decide) rfl kf_X5_235 q0 he hv hd K
theorem pf_X5_235 (C : Cx X RX5 cc nL ret rm tys) (q0 : Nat) {a : Nat} {fs : List Value} {x : Int32} (he : ws[q0]? = some (a, .inr (5, fs))) (hlen : fs.length = 34) (hd : decode cc pc = .ok (.putfield 235, 3)) (hw : ws.set q0 (a, .inr (5, fs.set 33 (.int x))) = ws') (K : JR X Qf nL k n F ws' lv (pc + 3) st) : JR X Qf nL k n F ws lv pc (.int x :: .ref a :: st) := r_put (ty := .int) C inG_X5 tyX5 tyX5_ok nmX5 33 (by decide) rfl (by decide +kernel) rfl kf_X5_235 q0 he rfl rfl (by rw [hlen]; decide) hd hw K
end FLD
theorem kz_L : Cond.initialized "QuietDutyLaw" ∈ gtbl := (g_tb 0 (by decide +kernel) (by decide +kernel))
theorem kz_X4 : Cond.initialized "QuietDuty" ∈ gtbl := (g_tb 1 (by decide +kernel) (by decide +kernel))
theorem kz_X1 : Cond.initialized "QuietDuty$Sheet" ∈ gtbl := (g_tb 2 (by decide +kernel) (by decide +kernel))
theorem kz_X2 : Cond.initialized "QuietDuty$TextReader" ∈ gtbl := (g_tb 3 (by decide +kernel) (by decide +kernel))
theorem kz_X3 : Cond.initialized "QuietDuty$Way" ∈ gtbl := (g_tb 4 (by decide +kernel) (by decide +kernel))
theorem kz_X0 : Cond.initialized "QuietDuty$Border" ∈ gtbl := (g_tb 5 (by decide +kernel) (by decide +kernel))
theorem kz_X5 : Cond.initialized "QuietDutyModel" ∈ gtbl := (g_tb 6 (by decide +kernel) (by decide +kernel))
theorem kz_J7 : Cond.initialized "java/util/Arrays" ∈ gtbl := (g_tb 7 (by decide +kernel) (by decide +kernel))
theorem kz_J9 : Cond.initialized "java/lang/Math" ∈ gtbl := (g_tb 8 (by decide +kernel) (by decide +kernel))
theorem kz_J10 : Cond.initialized "java/lang/System" ∈ gtbl := (g_tb 9 (by decide +kernel) (by decide +kernel))
theorem kc_X4_init : Cond.code yX4_init cX4_init 2 none ∈ gtbl := (g_tb 14 (by decide +kernel) (by decide +kernel))
theorem ki_X4_init : Cond.instanceMethod yX4_init ∈ gtbl := (g_tb 13 (by decide +kernel) (by decide +kernel))
theorem kl_L_9 : Cond.methodLink RL 9 yX4_init ∈ gtbl := (g_tb 12 (by decide +kernel) (by decide +kernel))
theorem kc_X4_frontier : Cond.code yX4_frontier cX4_frontier 9 (some .int) ∈ gtbl := (g_tb 170 (by decide +kernel) (by decide +kernel))
theorem ki_X4_frontier : Cond.instanceMethod yX4_frontier ∈ gtbl := (g_tb 168 (by decide +kernel) (by decide +kernel))
theorem ks_X4_frontier : Cond.selects yX4_frontier.cls yX4_frontier yX4_frontier ∈ gtbl := (g_tb 169 (by decide +kernel) (by decide +kernel))
theorem mv_L_13 : okV RL 13 yX4_frontier cX4_frontier 9 (some .int) 4 := ⟨(g_tb 167 (by decide +kernel) (by decide +kernel)), ki_X4_frontier, ks_X4_frontier, kz_X4, kc_X4_frontier, ⟨by decide +kernel, by decide +kernel, by decide +kernel⟩⟩
theorem kc_X4_refusalOfRow : Cond.code yX4_refusalOfRow cX4_refusalOfRow 2 (some .int) ∈ gtbl := (g_tb 173 (by decide +kernel) (by decide +kernel))
theorem kt_X4_refusalOfRow : Cond.static yX4_refusalOfRow ∈ gtbl := (g_tb 172 (by decide +kernel) (by decide +kernel))
theorem ms_X4_42 : okS RX4 42 yX4_refusalOfRow cX4_refusalOfRow 2 (some .int) 2 := ⟨(g_tb 171 (by decide +kernel) (by decide +kernel)), kt_X4_refusalOfRow, kz_X4, kc_X4_refusalOfRow, ⟨by decide +kernel, by decide +kernel, by decide +kernel⟩⟩
theorem kc_X4_isSheet : Cond.code yX4_isSheet cX4_isSheet 1 (some .boolean) ∈ gtbl := (g_tb 176 (by decide +kernel) (by decide +kernel))
theorem kt_X4_isSheet : Cond.static yX4_isSheet ∈ gtbl := (g_tb 175 (by decide +kernel) (by decide +kernel))
theorem ms_X4_210 : okS RX4 210 yX4_isSheet cX4_isSheet 1 (some .boolean) 1 := ⟨(g_tb 174 (by decide +kernel) (by decide +kernel)), kt_X4_isSheet, kz_X4, kc_X4_isSheet, ⟨by decide +kernel, by decide +kernel, by decide +kernel⟩⟩
theorem kc_X4_isWithin : Cond.code yX4_isWithin cX4_isWithin 3 (some .boolean) ∈ gtbl := (g_tb 179 (by decide +kernel) (by decide +kernel))
theorem kt_X4_isWithin : Cond.static yX4_isWithin ∈ gtbl := (g_tb 178 (by decide +kernel) (by decide +kernel))
theorem ms_X4_113 : okS RX4 113 yX4_isWithin cX4_isWithin 3 (some .boolean) 3 := ⟨(g_tb 177 (by decide +kernel) (by decide +kernel)), kt_X4_isWithin, kz_X4, kc_X4_isWithin, ⟨by decide +kernel, by decide +kernel, by decide +kernel⟩⟩
theorem kc_X4_refused : Cond.code yX4_refused cX4_refused 2 (some .int) ∈ gtbl := (g_tb 183 (by decide +kernel) (by decide +kernel))
theorem ki_X4_refused : Cond.instanceMethod yX4_refused ∈ gtbl := (g_tb 182 (by decide +kernel) (by decide +kernel))
theorem ks_X4_refused : Cond.selects yX4_refused.cls yX4_refused yX4_refused ∈ gtbl := g_sl 0 (by decide +kernel) (by decide +kernel)
theorem mv_X4_46 : okV RX4 46 yX4_refused cX4_refused 2 (some .int) 1 := ⟨(g_tb 180 (by decide +kernel) (by decide +kernel)), ki_X4_refused, ks_X4_refused, kz_X4, kc_X4_refused, ⟨by decide +kernel, by decide +kernel, by decide +kernel⟩⟩
theorem kc_X1_faultAs : Cond.code yX1_faultAs cX1_faultAs 2 (some .int) ∈ gtbl := (g_tb 187 (by decide +kernel) (by decide +kernel))
theorem ki_X1_faultAs : Cond.instanceMethod yX1_faultAs ∈ gtbl := (g_tb 185 (by decide +kernel) (by decide +kernel))
theorem ks_X1_faultAs : Cond.selects yX1_faultAs.cls yX1_faultAs yX1_faultAs ∈ gtbl := (g_tb 186 (by decide +kernel) (by decide +kernel))
theorem mv_X4_50 : okV RX4 50 yX1_faultAs cX1_faultAs 2 (some .int) 1 := ⟨(g_tb 184 (by decide +kernel) (by decide +kernel)), ki_X1_faultAs, ks_X1_faultAs, kz_X1, kc_X1_faultAs, ⟨by decide +kernel, by decide +kernel, by decide +kernel⟩⟩
theorem kc_X1_hasRow : Cond.code yX1_hasRow cX1_hasRow 1 (some .boolean) ∈ gtbl := (g_tb 191 (by decide +kernel) (by decide +kernel))
theorem ki_X1_hasRow : Cond.instanceMethod yX1_hasRow ∈ gtbl := (g_tb 189 (by decide +kernel) (by decide +kernel))
theorem ks_X1_hasRow : Cond.selects yX1_hasRow.cls yX1_hasRow yX1_hasRow ∈ gtbl := (g_tb 190 (by decide +kernel) (by decide +kernel))
theorem mv_X1_28 : okV RX1 28 yX1_hasRow cX1_hasRow 1 (some .boolean) 0 := ⟨(g_tb 188 (by decide +kernel) (by decide +kernel)), ki_X1_hasRow, ks_X1_hasRow, kz_X1, kc_X1_hasRow, ⟨by decide +kernel, by decide +kernel, by decide +kernel⟩⟩
theorem kc_X1_hasCells : Cond.code yX1_hasCells cX1_hasCells 3 (some .boolean) ∈ gtbl := (g_tb 195 (by decide +kernel) (by decide +kernel))
theorem ki_X1_hasCells : Cond.instanceMethod yX1_hasCells ∈ gtbl := (g_tb 193 (by decide +kernel) (by decide +kernel))
theorem ks_X1_hasCells : Cond.selects yX1_hasCells.cls yX1_hasCells yX1_hasCells ∈ gtbl := (g_tb 194 (by decide +kernel) (by decide +kernel))
theorem mv_X4_53 : okV RX4 53 yX1_hasCells cX1_hasCells 3 (some .boolean) 2 := ⟨(g_tb 192 (by decide +kernel) (by decide +kernel)), ki_X1_hasCells, ks_X1_hasCells, kz_X1, kc_X1_hasCells, ⟨by decide +kernel, by decide +kernel, by decide +kernel⟩⟩
theorem kc_X4_faulted : Cond.code yX4_faulted cX4_faulted 2 (some .int) ∈ gtbl := (g_tb 199 (by decide +kernel) (by decide +kernel))
theorem ki_X4_faulted : Cond.instanceMethod yX4_faulted ∈ gtbl := (g_tb 198 (by decide +kernel) (by decide +kernel))
theorem ks_X4_faulted : Cond.selects yX4_faulted.cls yX4_faulted yX4_faulted ∈ gtbl := g_sl 1 (by decide +kernel) (by decide +kernel)
theorem mv_X4_57 : okV RX4 57 yX4_faulted cX4_faulted 2 (some .int) 1 := ⟨(g_tb 196 (by decide +kernel) (by decide +kernel)), ki_X4_faulted, ks_X4_faulted, kz_X4, kc_X4_faulted, ⟨by decide +kernel, by decide +kernel, by decide +kernel⟩⟩
theorem kc_X2_readInto : Cond.code yX2_readInto cX2_readInto 5 (some .boolean) ∈ gtbl := (g_tb 203 (by decide +kernel) (by decide +kernel))
theorem ki_X2_readInto : Cond.instanceMethod yX2_readInto ∈ gtbl := (g_tb 201 (by decide +kernel) (by decide +kernel))
theorem ks_X2_readInto : Cond.selects yX2_readInto.cls yX2_readInto yX2_readInto ∈ gtbl := (g_tb 202 (by decide +kernel) (by decide +kernel))
theorem mv_X4_64 : okV RX4 64 yX2_readInto cX2_readInto 5 (some .boolean) 4 := ⟨(g_tb 200 (by decide +kernel) (by decide +kernel)), ki_X2_readInto, ks_X2_readInto, kz_X2, kc_X2_readInto, ⟨by decide +kernel, by decide +kernel, by decide +kernel⟩⟩
theorem kc_X0_begin : Cond.code yX0_begin cX0_begin 1 none ∈ gtbl := (g_tb 207 (by decide +kernel) (by decide +kernel))
theorem ki_X0_begin : Cond.instanceMethod yX0_begin ∈ gtbl := (g_tb 205 (by decide +kernel) (by decide +kernel))
theorem ks_X0_begin : Cond.selects yX0_begin.cls yX0_begin yX0_begin ∈ gtbl := (g_tb 206 (by decide +kernel) (by decide +kernel))
theorem mv_X2_25 : okV RX2 25 yX0_begin cX0_begin 1 none 0 := ⟨(g_tb 204 (by decide +kernel) (by decide +kernel)), ki_X0_begin, ks_X0_begin, kz_X0, kc_X0_begin, ⟨by decide +kernel, by decide +kernel, by decide +kernel⟩⟩
theorem kc_J7_fill_53178 : Cond.code yJ7_fill_53178 cJ7_fill_53178 4 none ∈ gtbl := (g_tb 210 (by decide +kernel) (by decide +kernel))
theorem kt_J7_fill_53178 : Cond.static yJ7_fill_53178 ∈ gtbl := (g_tb 209 (by decide +kernel) (by decide +kernel))
theorem ms_X0_61 : okS RX0 61 yJ7_fill_53178 cJ7_fill_53178 4 none 2 := ⟨(g_tb 208 (by decide +kernel) (by decide +kernel)), kt_J7_fill_53178, kz_J7, kc_J7_fill_53178, ⟨by decide +kernel, by decide +kernel, by decide +kernel⟩⟩
theorem kc_X2_takes : Cond.code yX2_takes cX2_takes 4 (some .boolean) ∈ gtbl := (g_tb 214 (by decide +kernel) (by decide +kernel))
theorem ki_X2_takes : Cond.instanceMethod yX2_takes ∈ gtbl := (g_tb 213 (by decide +kernel) (by decide +kernel))
theorem ks_X2_takes : Cond.selects yX2_takes.cls yX2_takes yX2_takes ∈ gtbl := g_sl 2 (by decide +kernel) (by decide +kernel)
theorem mv_X2_29 : okV RX2 29 yX2_takes cX2_takes 4 (some .boolean) 2 := ⟨(g_tb 211 (by decide +kernel) (by decide +kernel)), ki_X2_takes, ks_X2_takes, kz_X2, kc_X2_takes, ⟨by decide +kernel, by decide +kernel, by decide +kernel⟩⟩
theorem kc_X2_code : Cond.code yX2_code cX2_code 1 (some .int) ∈ gtbl := (g_tb 218 (by decide +kernel) (by decide +kernel))
theorem ki_X2_code : Cond.instanceMethod yX2_code ∈ gtbl := (g_tb 217 (by decide +kernel) (by decide +kernel))
theorem ks_X2_code : Cond.selects yX2_code.cls yX2_code yX2_code ∈ gtbl := g_sl 3 (by decide +kernel) (by decide +kernel)
theorem mv_X2_47 : okV RX2 47 yX2_code cX2_code 1 (some .int) 0 := ⟨(g_tb 215 (by decide +kernel) (by decide +kernel)), ki_X2_code, ks_X2_code, kz_X2, kc_X2_code, ⟨by decide +kernel, by decide +kernel, by decide +kernel⟩⟩
theorem kc_X2_codeAt : Cond.code yX2_codeAt cX2_codeAt 2 (some .int) ∈ gtbl := (g_tb 222 (by decide +kernel) (by decide +kernel))
theorem ki_X2_codeAt : Cond.instanceMethod yX2_codeAt ∈ gtbl := (g_tb 221 (by decide +kernel) (by decide +kernel))
theorem ks_X2_codeAt : Cond.selects yX2_codeAt.cls yX2_codeAt yX2_codeAt ∈ gtbl := g_sl 4 (by decide +kernel) (by decide +kernel)
theorem mv_X2_62 : okV RX2 62 yX2_codeAt cX2_codeAt 2 (some .int) 1 := ⟨(g_tb 219 (by decide +kernel) (by decide +kernel)), ki_X2_codeAt, ks_X2_codeAt, kz_X2, kc_X2_codeAt, ⟨by decide +kernel, by decide +kernel, by decide +kernel⟩⟩
theorem kc_X1_hasCell : Cond.code yX1_hasCell cX1_hasCell 2 (some .boolean) ∈ gtbl := (g_tb 226 (by decide +kernel) (by decide +kernel))
theorem ki_X1_hasCell : Cond.instanceMethod yX1_hasCell ∈ gtbl := (g_tb 224 (by decide +kernel) (by decide +kernel))
theorem ks_X1_hasCell : Cond.selects yX1_hasCell.cls yX1_hasCell yX1_hasCell ∈ gtbl := (g_tb 225 (by decide +kernel) (by decide +kernel))
theorem mv_X2_65 : okV RX2 65 yX1_hasCell cX1_hasCell 2 (some .boolean) 1 := ⟨(g_tb 223 (by decide +kernel) (by decide +kernel)), ki_X1_hasCell, ks_X1_hasCell, kz_X1, kc_X1_hasCell, ⟨by decide +kernel, by decide +kernel, by decide +kernel⟩⟩
theorem kc_X2_digitBefore : Cond.code yX2_digitBefore cX2_digitBefore 2 (some .int) ∈ gtbl := (g_tb 230 (by decide +kernel) (by decide +kernel))
theorem ki_X2_digitBefore : Cond.instanceMethod yX2_digitBefore ∈ gtbl := (g_tb 229 (by decide +kernel) (by decide +kernel))
theorem ks_X2_digitBefore : Cond.selects yX2_digitBefore.cls yX2_digitBefore yX2_digitBefore ∈ gtbl := g_sl 5 (by decide +kernel) (by decide +kernel)
theorem mv_X2_33 : okV RX2 33 yX2_digitBefore cX2_digitBefore 2 (some .int) 1 := ⟨(g_tb 227 (by decide +kernel) (by decide +kernel)), ki_X2_digitBefore, ks_X2_digitBefore, kz_X2, kc_X2_digitBefore, ⟨by decide +kernel, by decide +kernel, by decide +kernel⟩⟩
theorem kc_X2_readPosts : Cond.code yX2_readPosts cX2_readPosts 3 (some .boolean) ∈ gtbl := (g_tb 234 (by decide +kernel) (by decide +kernel))
theorem ki_X2_readPosts : Cond.instanceMethod yX2_readPosts ∈ gtbl := (g_tb 233 (by decide +kernel) (by decide +kernel))
theorem ks_X2_readPosts : Cond.selects yX2_readPosts.cls yX2_readPosts yX2_readPosts ∈ gtbl := g_sl 6 (by decide +kernel) (by decide +kernel)
theorem mv_X2_40 : okV RX2 40 yX2_readPosts cX2_readPosts 3 (some .boolean) 1 := ⟨(g_tb 231 (by decide +kernel) (by decide +kernel)), ki_X2_readPosts, ks_X2_readPosts, kz_X2, kc_X2_readPosts, ⟨by decide +kernel, by decide +kernel, by decide +kernel⟩⟩
theorem kc_X0_addPost : Cond.code yX0_addPost cX0_addPost 3 none ∈ gtbl := (g_tb 238 (by decide +kernel) (by decide +kernel))
theorem ki_X0_addPost : Cond.instanceMethod yX0_addPost ∈ gtbl := (g_tb 236 (by decide +kernel) (by decide +kernel))
theorem ks_X0_addPost : Cond.selects yX0_addPost.cls yX0_addPost yX0_addPost ∈ gtbl := (g_tb 237 (by decide +kernel) (by decide +kernel))
theorem mv_X2_51 : okV RX2 51 yX0_addPost cX0_addPost 3 none 2 := ⟨(g_tb 235 (by decide +kernel) (by decide +kernel)), ki_X0_addPost, ks_X0_addPost, kz_X0, kc_X0_addPost, ⟨by decide +kernel, by decide +kernel, by decide +kernel⟩⟩
theorem kc_X2_readSilences : Cond.code yX2_readSilences cX2_readSilences 4 (some .boolean) ∈ gtbl := (g_tb 242 (by decide +kernel) (by decide +kernel))
theorem ki_X2_readSilences : Cond.instanceMethod yX2_readSilences ∈ gtbl := (g_tb 241 (by decide +kernel) (by decide +kernel))
theorem ks_X2_readSilences : Cond.selects yX2_readSilences.cls yX2_readSilences yX2_readSilences ∈ gtbl := g_sl 7 (by decide +kernel) (by decide +kernel)
theorem mv_X2_44 : okV RX2 44 yX2_readSilences cX2_readSilences 4 (some .boolean) 1 := ⟨(g_tb 239 (by decide +kernel) (by decide +kernel)), ki_X2_readSilences, ks_X2_readSilences, kz_X2, kc_X2_readSilences, ⟨by decide +kernel, by decide +kernel, by decide +kernel⟩⟩
theorem kc_X2_kindOf : Cond.code yX2_kindOf cX2_kindOf 1 (some .int) ∈ gtbl := (g_tb 245 (by decide +kernel) (by decide +kernel))
theorem kt_X2_kindOf : Cond.static yX2_kindOf ∈ gtbl := (g_tb 244 (by decide +kernel) (by decide +kernel))
theorem ms_X2_55 : okS RX2 55 yX2_kindOf cX2_kindOf 1 (some .int) 1 := ⟨(g_tb 243 (by decide +kernel) (by decide +kernel)), kt_X2_kindOf, kz_X2, kc_X2_kindOf, ⟨by decide +kernel, by decide +kernel, by decide +kernel⟩⟩
theorem kc_X0_addSilence : Cond.code yX0_addSilence cX0_addSilence 4 none ∈ gtbl := (g_tb 249 (by decide +kernel) (by decide +kernel))
theorem ki_X0_addSilence : Cond.instanceMethod yX0_addSilence ∈ gtbl := (g_tb 247 (by decide +kernel) (by decide +kernel))
theorem ks_X0_addSilence : Cond.selects yX0_addSilence.cls yX0_addSilence yX0_addSilence ∈ gtbl := (g_tb 248 (by decide +kernel) (by decide +kernel))
theorem mv_X2_58 : okV RX2 58 yX0_addSilence cX0_addSilence 4 none 3 := ⟨(g_tb 246 (by decide +kernel) (by decide +kernel)), ki_X0_addSilence, ks_X0_addSilence, kz_X0, kc_X0_addSilence, ⟨by decide +kernel, by decide +kernel, by decide +kernel⟩⟩
theorem kc_X2_place : Cond.code yX2_place cX2_place 1 (some .int) ∈ gtbl := (g_tb 253 (by decide +kernel) (by decide +kernel))
theorem ki_X2_place : Cond.instanceMethod yX2_place ∈ gtbl := (g_tb 251 (by decide +kernel) (by decide +kernel))
theorem ks_X2_place : Cond.selects yX2_place.cls yX2_place yX2_place ∈ gtbl := (g_tb 252 (by decide +kernel) (by decide +kernel))
theorem mv_X4_68 : okV RX4 68 yX2_place cX2_place 1 (some .int) 0 := ⟨(g_tb 250 (by decide +kernel) (by decide +kernel)), ki_X2_place, ks_X2_place, kz_X2, kc_X2_place, ⟨by decide +kernel, by decide +kernel, by decide +kernel⟩⟩
theorem kc_X4_ofPost : Cond.code yX4_ofPost cX4_ofPost 3 (some .int) ∈ gtbl := (g_tb 257 (by decide +kernel) (by decide +kernel))
theorem ki_X4_ofPost : Cond.instanceMethod yX4_ofPost ∈ gtbl := (g_tb 255 (by decide +kernel) (by decide +kernel))
theorem ks_X4_ofPost : Cond.selects yX4_ofPost.cls yX4_ofPost yX4_ofPost ∈ gtbl := (g_tb 256 (by decide +kernel) (by decide +kernel))
theorem mv_L_18 : okV RL 18 yX4_ofPost cX4_ofPost 3 (some .int) 2 := ⟨(g_tb 254 (by decide +kernel) (by decide +kernel)), ki_X4_ofPost, ks_X4_ofPost, kz_X4, kc_X4_ofPost, ⟨by decide +kernel, by decide +kernel, by decide +kernel⟩⟩
theorem kc_X0_hasPost : Cond.code yX0_hasPost cX0_hasPost 2 (some .boolean) ∈ gtbl := (g_tb 261 (by decide +kernel) (by decide +kernel))
theorem ki_X0_hasPost : Cond.instanceMethod yX0_hasPost ∈ gtbl := (g_tb 259 (by decide +kernel) (by decide +kernel))
theorem ks_X0_hasPost : Cond.selects yX0_hasPost.cls yX0_hasPost yX0_hasPost ∈ gtbl := (g_tb 260 (by decide +kernel) (by decide +kernel))
theorem mv_X4_75 : okV RX4 75 yX0_hasPost cX0_hasPost 2 (some .boolean) 1 := ⟨(g_tb 258 (by decide +kernel) (by decide +kernel)), ki_X0_hasPost, ks_X0_hasPost, kz_X0, kc_X0_hasPost, ⟨by decide +kernel, by decide +kernel, by decide +kernel⟩⟩
theorem kc_X4_ofSilence : Cond.code yX4_ofSilence cX4_ofSilence 3 (some .int) ∈ gtbl := (g_tb 265 (by decide +kernel) (by decide +kernel))
theorem ki_X4_ofSilence : Cond.instanceMethod yX4_ofSilence ∈ gtbl := (g_tb 263 (by decide +kernel) (by decide +kernel))
theorem ks_X4_ofSilence : Cond.selects yX4_ofSilence.cls yX4_ofSilence yX4_ofSilence ∈ gtbl := (g_tb 264 (by decide +kernel) (by decide +kernel))
theorem mv_L_23 : okV RL 23 yX4_ofSilence cX4_ofSilence 3 (some .int) 2 := ⟨(g_tb 262 (by decide +kernel) (by decide +kernel)), ki_X4_ofSilence, ks_X4_ofSilence, kz_X4, kc_X4_ofSilence, ⟨by decide +kernel, by decide +kernel, by decide +kernel⟩⟩
theorem kc_X0_hasSilence : Cond.code yX0_hasSilence cX0_hasSilence 2 (some .boolean) ∈ gtbl := (g_tb 269 (by decide +kernel) (by decide +kernel))
theorem ki_X0_hasSilence : Cond.instanceMethod yX0_hasSilence ∈ gtbl := (g_tb 267 (by decide +kernel) (by decide +kernel))
theorem ks_X0_hasSilence : Cond.selects yX0_hasSilence.cls yX0_hasSilence yX0_hasSilence ∈ gtbl := (g_tb 268 (by decide +kernel) (by decide +kernel))
theorem mv_X4_86 : okV RX4 86 yX0_hasSilence cX0_hasSilence 2 (some .boolean) 1 := ⟨(g_tb 266 (by decide +kernel) (by decide +kernel)), ki_X0_hasSilence, ks_X0_hasSilence, kz_X0, kc_X0_hasSilence, ⟨by decide +kernel, by decide +kernel, by decide +kernel⟩⟩
theorem kc_X0_gradeOf : Cond.code yX0_gradeOf cX0_gradeOf 2 (some .int) ∈ gtbl := (g_tb 273 (by decide +kernel) (by decide +kernel))
theorem ki_X0_gradeOf : Cond.instanceMethod yX0_gradeOf ∈ gtbl := (g_tb 271 (by decide +kernel) (by decide +kernel))
theorem ks_X0_gradeOf : Cond.selects yX0_gradeOf.cls yX0_gradeOf yX0_gradeOf ∈ gtbl := (g_tb 272 (by decide +kernel) (by decide +kernel))
theorem mv_X4_98 : okV RX4 98 yX0_gradeOf cX0_gradeOf 2 (some .int) 1 := ⟨(g_tb 270 (by decide +kernel) (by decide +kernel)), ki_X0_gradeOf, ks_X0_gradeOf, kz_X0, kc_X0_gradeOf, ⟨by decide +kernel, by decide +kernel, by decide +kernel⟩⟩
theorem kc_X0_weightOf : Cond.code yX0_weightOf cX0_weightOf 2 (some .int) ∈ gtbl := (g_tb 277 (by decide +kernel) (by decide +kernel))
theorem ki_X0_weightOf : Cond.instanceMethod yX0_weightOf ∈ gtbl := (g_tb 275 (by decide +kernel) (by decide +kernel))
theorem ks_X0_weightOf : Cond.selects yX0_weightOf.cls yX0_weightOf yX0_weightOf ∈ gtbl := (g_tb 276 (by decide +kernel) (by decide +kernel))
theorem mv_X4_101 : okV RX4 101 yX0_weightOf cX0_weightOf 2 (some .int) 1 := ⟨(g_tb 274 (by decide +kernel) (by decide +kernel)), ki_X0_weightOf, ks_X0_weightOf, kz_X0, kc_X0_weightOf, ⟨by decide +kernel, by decide +kernel, by decide +kernel⟩⟩
theorem mv_X0_67 : okV RX0 67 yX0_gradeOf cX0_gradeOf 2 (some .int) 1 := ⟨(g_tb 278 (by decide +kernel) (by decide +kernel)), ki_X0_gradeOf, ks_X0_gradeOf, kz_X0, kc_X0_gradeOf, ⟨by decide +kernel, by decide +kernel, by decide +kernel⟩⟩
theorem kc_X0_isDeclared : Cond.code yX0_isDeclared cX0_isDeclared 2 (some .boolean) ∈ gtbl := (g_tb 282 (by decide +kernel) (by decide +kernel))
theorem ki_X0_isDeclared : Cond.instanceMethod yX0_isDeclared ∈ gtbl := (g_tb 280 (by decide +kernel) (by decide +kernel))
theorem ks_X0_isDeclared : Cond.selects yX0_isDeclared.cls yX0_isDeclared yX0_isDeclared ∈ gtbl := (g_tb 281 (by decide +kernel) (by decide +kernel))
theorem mv_X4_107 : okV RX4 107 yX0_isDeclared cX0_isDeclared 2 (some .boolean) 1 := ⟨(g_tb 279 (by decide +kernel) (by decide +kernel)), ki_X0_isDeclared, ks_X0_isDeclared, kz_X0, kc_X0_isDeclared, ⟨by decide +kernel, by decide +kernel, by decide +kernel⟩⟩
theorem kc_X0_isDutiable : Cond.code yX0_isDutiable cX0_isDutiable 2 (some .boolean) ∈ gtbl := (g_tb 286 (by decide +kernel) (by decide +kernel))
theorem ki_X0_isDutiable : Cond.instanceMethod yX0_isDutiable ∈ gtbl := (g_tb 284 (by decide +kernel) (by decide +kernel))
theorem ks_X0_isDutiable : Cond.selects yX0_isDutiable.cls yX0_isDutiable yX0_isDutiable ∈ gtbl := (g_tb 285 (by decide +kernel) (by decide +kernel))
theorem mv_X4_110 : okV RX4 110 yX0_isDutiable cX0_isDutiable 2 (some .boolean) 1 := ⟨(g_tb 283 (by decide +kernel) (by decide +kernel)), ki_X0_isDutiable, ks_X0_isDutiable, kz_X0, kc_X0_isDutiable, ⟨by decide +kernel, by decide +kernel, by decide +kernel⟩⟩
theorem kc_X4_free : Cond.code yX4_free cX4_free 3 (some .int) ∈ gtbl := (g_tb 290 (by decide +kernel) (by decide +kernel))
theorem ki_X4_free : Cond.instanceMethod yX4_free ∈ gtbl := (g_tb 288 (by decide +kernel) (by decide +kernel))
theorem ks_X4_free : Cond.selects yX4_free.cls yX4_free yX4_free ∈ gtbl := (g_tb 289 (by decide +kernel) (by decide +kernel))
theorem mv_L_27 : okV RL 27 yX4_free cX4_free 3 (some .int) 1 := ⟨(g_tb 287 (by decide +kernel) (by decide +kernel)), ki_X4_free, ks_X4_free, kz_X4, kc_X4_free, ⟨by decide +kernel, by decide +kernel, by decide +kernel⟩⟩
theorem kc_X0_isMissing : Cond.code yX0_isMissing cX0_isMissing 1 (some .boolean) ∈ gtbl := (g_tb 294 (by decide +kernel) (by decide +kernel))
theorem ki_X0_isMissing : Cond.instanceMethod yX0_isMissing ∈ gtbl := (g_tb 292 (by decide +kernel) (by decide +kernel))
theorem ks_X0_isMissing : Cond.selects yX0_isMissing.cls yX0_isMissing yX0_isMissing ∈ gtbl := (g_tb 293 (by decide +kernel) (by decide +kernel))
theorem mv_X4_117 : okV RX4 117 yX0_isMissing cX0_isMissing 1 (some .boolean) 0 := ⟨(g_tb 291 (by decide +kernel) (by decide +kernel)), ki_X0_isMissing, ks_X0_isMissing, kz_X0, kc_X0_isMissing, ⟨by decide +kernel, by decide +kernel, by decide +kernel⟩⟩
theorem kc_X4_law : Cond.code yX4_law cX4_law 3 (some .int) ∈ gtbl := (g_tb 298 (by decide +kernel) (by decide +kernel))
theorem ki_X4_law : Cond.instanceMethod yX4_law ∈ gtbl := (g_tb 296 (by decide +kernel) (by decide +kernel))
theorem ks_X4_law : Cond.selects yX4_law.cls yX4_law yX4_law ∈ gtbl := (g_tb 297 (by decide +kernel) (by decide +kernel))
theorem mv_L_32 : okV RL 32 yX4_law cX4_law 3 (some .int) 1 := ⟨(g_tb 295 (by decide +kernel) (by decide +kernel)), ki_X4_law, ks_X4_law, kz_X4, kc_X4_law, ⟨by decide +kernel, by decide +kernel, by decide +kernel⟩⟩
theorem kc_X4_carry : Cond.code yX4_carry cX4_carry 4 (some .int) ∈ gtbl := (g_tb 302 (by decide +kernel) (by decide +kernel))
theorem ki_X4_carry : Cond.instanceMethod yX4_carry ∈ gtbl := (g_tb 300 (by decide +kernel) (by decide +kernel))
theorem ks_X4_carry : Cond.selects yX4_carry.cls yX4_carry yX4_carry ∈ gtbl := (g_tb 301 (by decide +kernel) (by decide +kernel))
theorem mv_L_36 : okV RL 36 yX4_carry cX4_carry 4 (some .int) 2 := ⟨(g_tb 299 (by decide +kernel) (by decide +kernel)), ki_X4_carry, ks_X4_carry, kz_X4, kc_X4_carry, ⟨by decide +kernel, by decide +kernel, by decide +kernel⟩⟩
theorem kc_X4_declare : Cond.code yX4_declare cX4_declare 3 (some .int) ∈ gtbl := (g_tb 306 (by decide +kernel) (by decide +kernel))
theorem ki_X4_declare : Cond.instanceMethod yX4_declare ∈ gtbl := (g_tb 304 (by decide +kernel) (by decide +kernel))
theorem ks_X4_declare : Cond.selects yX4_declare.cls yX4_declare yX4_declare ∈ gtbl := (g_tb 305 (by decide +kernel) (by decide +kernel))
theorem mv_L_40 : okV RL 40 yX4_declare cX4_declare 3 (some .int) 2 := ⟨(g_tb 303 (by decide +kernel) (by decide +kernel)), ki_X4_declare, ks_X4_declare, kz_X4, kc_X4_declare, ⟨by decide +kernel, by decide +kernel, by decide +kernel⟩⟩
theorem kc_X4_hum : Cond.code yX4_hum cX4_hum 4 (some .int) ∈ gtbl := (g_tb 310 (by decide +kernel) (by decide +kernel))
theorem ki_X4_hum : Cond.instanceMethod yX4_hum ∈ gtbl := (g_tb 308 (by decide +kernel) (by decide +kernel))
theorem ks_X4_hum : Cond.selects yX4_hum.cls yX4_hum yX4_hum ∈ gtbl := (g_tb 309 (by decide +kernel) (by decide +kernel))
theorem mv_L_45 : okV RL 45 yX4_hum cX4_hum 4 (some .int) 2 := ⟨(g_tb 307 (by decide +kernel) (by decide +kernel)), ki_X4_hum, ks_X4_hum, kz_X4, kc_X4_hum, ⟨by decide +kernel, by decide +kernel, by decide +kernel⟩⟩
theorem kc_X4_duty : Cond.code yX4_duty cX4_duty 2 (some .int) ∈ gtbl := (g_tb 314 (by decide +kernel) (by decide +kernel))
theorem ki_X4_duty : Cond.instanceMethod yX4_duty ∈ gtbl := (g_tb 312 (by decide +kernel) (by decide +kernel))
theorem ks_X4_duty : Cond.selects yX4_duty.cls yX4_duty yX4_duty ∈ gtbl := (g_tb 313 (by decide +kernel) (by decide +kernel))
theorem mv_L_49 : okV RL 49 yX4_duty cX4_duty 2 (some .int) 1 := ⟨(g_tb 311 (by decide +kernel) (by decide +kernel)), ki_X4_duty, ks_X4_duty, kz_X4, kc_X4_duty, ⟨by decide +kernel, by decide +kernel, by decide +kernel⟩⟩
theorem kc_X0_dutyAt : Cond.code yX0_dutyAt cX0_dutyAt 2 (some .int) ∈ gtbl := (g_tb 318 (by decide +kernel) (by decide +kernel))
theorem ki_X0_dutyAt : Cond.instanceMethod yX0_dutyAt ∈ gtbl := (g_tb 316 (by decide +kernel) (by decide +kernel))
theorem ks_X0_dutyAt : Cond.selects yX0_dutyAt.cls yX0_dutyAt yX0_dutyAt ∈ gtbl := (g_tb 317 (by decide +kernel) (by decide +kernel))
theorem mv_X4_133 : okV RX4 133 yX0_dutyAt cX0_dutyAt 2 (some .int) 1 := ⟨(g_tb 315 (by decide +kernel) (by decide +kernel)), ki_X0_dutyAt, ks_X0_dutyAt, kz_X0, kc_X0_dutyAt, ⟨by decide +kernel, by decide +kernel, by decide +kernel⟩⟩
theorem kc_X0_dutyByRate : Cond.code yX0_dutyByRate cX0_dutyByRate 4 (some .int) ∈ gtbl := (g_tb 322 (by decide +kernel) (by decide +kernel))
theorem ki_X0_dutyByRate : Cond.instanceMethod yX0_dutyByRate ∈ gtbl := (g_tb 321 (by decide +kernel) (by decide +kernel))
theorem ks_X0_dutyByRate : Cond.selects yX0_dutyByRate.cls yX0_dutyByRate yX0_dutyByRate ∈ gtbl := g_sl 8 (by decide +kernel) (by decide +kernel)
theorem mv_X0_71 : okV RX0 71 yX0_dutyByRate cX0_dutyByRate 4 (some .int) 1 := ⟨(g_tb 319 (by decide +kernel) (by decide +kernel)), ki_X0_dutyByRate, ks_X0_dutyByRate, kz_X0, kc_X0_dutyByRate, ⟨by decide +kernel, by decide +kernel, by decide +kernel⟩⟩
theorem kc_X0_minutesByGrade : Cond.code yX0_minutesByGrade cX0_minutesByGrade 5 (some .int) ∈ gtbl := (g_tb 326 (by decide +kernel) (by decide +kernel))
theorem ki_X0_minutesByGrade : Cond.instanceMethod yX0_minutesByGrade ∈ gtbl := (g_tb 325 (by decide +kernel) (by decide +kernel))
theorem ks_X0_minutesByGrade : Cond.selects yX0_minutesByGrade.cls yX0_minutesByGrade yX0_minutesByGrade ∈ gtbl := g_sl 9 (by decide +kernel) (by decide +kernel)
theorem mv_X0_74 : okV RX0 74 yX0_minutesByGrade cX0_minutesByGrade 5 (some .int) 1 := ⟨(g_tb 323 (by decide +kernel) (by decide +kernel)), ki_X0_minutesByGrade, ks_X0_minutesByGrade, kz_X0, kc_X0_minutesByGrade, ⟨by decide +kernel, by decide +kernel, by decide +kernel⟩⟩
theorem mv_X0_77 : okV RX0 77 yX0_isDeclared cX0_isDeclared 2 (some .boolean) 1 := ⟨(g_tb 327 (by decide +kernel) (by decide +kernel)), ki_X0_isDeclared, ks_X0_isDeclared, kz_X0, kc_X0_isDeclared, ⟨by decide +kernel, by decide +kernel, by decide +kernel⟩⟩
theorem mv_X0_81 : okV RX0 81 yX0_isDutiable cX0_isDutiable 2 (some .boolean) 1 := ⟨(g_tb 328 (by decide +kernel) (by decide +kernel)), ki_X0_isDutiable, ks_X0_isDutiable, kz_X0, kc_X0_isDutiable, ⟨by decide +kernel, by decide +kernel, by decide +kernel⟩⟩
theorem mx_X0_84 : okMax RX0 84 := ⟨(g_tb 329 (by decide +kernel) (by decide +kernel)), (g_tb 330 (by decide +kernel) (by decide +kernel)), kz_J9, (g_tb 331 (by decide +kernel) (by decide +kernel))⟩
theorem kc_X4_clear : Cond.code yX4_clear cX4_clear 8 (some .long) ∈ gtbl := (g_tb 335 (by decide +kernel) (by decide +kernel))
theorem ki_X4_clear : Cond.instanceMethod yX4_clear ∈ gtbl := (g_tb 333 (by decide +kernel) (by decide +kernel))
theorem ks_X4_clear : Cond.selects yX4_clear.cls yX4_clear yX4_clear ∈ gtbl := (g_tb 334 (by decide +kernel) (by decide +kernel))
theorem mv_L_53 : okV RL 53 yX4_clear cX4_clear 8 (some .long) 2 := ⟨(g_tb 332 (by decide +kernel) (by decide +kernel)), ki_X4_clear, ks_X4_clear, kz_X4, kc_X4_clear, ⟨by decide +kernel, by decide +kernel, by decide +kernel⟩⟩
theorem kc_X0_tenthsHeard : Cond.code yX0_tenthsHeard cX0_tenthsHeard 3 (some .int) ∈ gtbl := (g_tb 340 (by decide +kernel) (by decide +kernel))
theorem ki_X0_tenthsHeard : Cond.instanceMethod yX0_tenthsHeard ∈ gtbl := (g_tb 338 (by decide +kernel) (by decide +kernel))
theorem ks_X0_tenthsHeard : Cond.selects yX0_tenthsHeard.cls yX0_tenthsHeard yX0_tenthsHeard ∈ gtbl := (g_tb 339 (by decide +kernel) (by decide +kernel))
theorem mv_X4_138 : okV RX4 138 yX0_tenthsHeard cX0_tenthsHeard 3 (some .int) 2 := ⟨(g_tb 337 (by decide +kernel) (by decide +kernel)), ki_X0_tenthsHeard, ks_X0_tenthsHeard, kz_X0, kc_X0_tenthsHeard, ⟨by decide +kernel, by decide +kernel, by decide +kernel⟩⟩
theorem kc_X4_leastTerms : Cond.code yX4_leastTerms cX4_leastTerms 9 (some .long) ∈ gtbl := (g_tb 344 (by decide +kernel) (by decide +kernel))
theorem kt_X4_leastTerms : Cond.static yX4_leastTerms ∈ gtbl := (g_tb 343 (by decide +kernel) (by decide +kernel))
theorem ms_X4_143 : okS RX4 143 yX4_leastTerms cX4_leastTerms 9 (some .long) 3 := ⟨(g_tb 342 (by decide +kernel) (by decide +kernel)), kt_X4_leastTerms, kz_X4, kc_X4_leastTerms, ⟨by decide +kernel, by decide +kernel, by decide +kernel⟩⟩
theorem kc_X4_commonDivisor : Cond.code yX4_commonDivisor cX4_commonDivisor 11 (some .long) ∈ gtbl := (g_tb 347 (by decide +kernel) (by decide +kernel))
theorem kt_X4_commonDivisor : Cond.static yX4_commonDivisor ∈ gtbl := (g_tb 346 (by decide +kernel) (by decide +kernel))
theorem ms_X4_258 : okS RX4 258 yX4_commonDivisor cX4_commonDivisor 11 (some .long) 2 := ⟨(g_tb 345 (by decide +kernel) (by decide +kernel)), kt_X4_commonDivisor, kz_X4, kc_X4_commonDivisor, ⟨by decide +kernel, by decide +kernel, by decide +kernel⟩⟩
theorem kc_X4_cost : Cond.code yX4_cost cX4_cost 6 (some .long) ∈ gtbl := (g_tb 351 (by decide +kernel) (by decide +kernel))
theorem ki_X4_cost : Cond.instanceMethod yX4_cost ∈ gtbl := (g_tb 349 (by decide +kernel) (by decide +kernel))
theorem ks_X4_cost : Cond.selects yX4_cost.cls yX4_cost yX4_cost ∈ gtbl := (g_tb 350 (by decide +kernel) (by decide +kernel))
theorem mv_L_58 : okV RL 58 yX4_cost cX4_cost 6 (some .long) 5 := ⟨(g_tb 348 (by decide +kernel) (by decide +kernel)), ki_X4_cost, ks_X4_cost, kz_X4, kc_X4_cost, ⟨by decide +kernel, by decide +kernel, by decide +kernel⟩⟩
theorem kc_X4_lostUnfaulted : Cond.code yX4_lostUnfaulted cX4_lostUnfaulted 1 (some .long) ∈ gtbl := (g_tb 355 (by decide +kernel) (by decide +kernel))
theorem ki_X4_lostUnfaulted : Cond.instanceMethod yX4_lostUnfaulted ∈ gtbl := (g_tb 354 (by decide +kernel) (by decide +kernel))
theorem ks_X4_lostUnfaulted : Cond.selects yX4_lostUnfaulted.cls yX4_lostUnfaulted yX4_lostUnfaulted ∈ gtbl := g_sl 10 (by decide +kernel) (by decide +kernel)
theorem mv_X4_147 : okV RX4 147 yX4_lostUnfaulted cX4_lostUnfaulted 1 (some .long) 0 := ⟨(g_tb 352 (by decide +kernel) (by decide +kernel)), ki_X4_lostUnfaulted, ks_X4_lostUnfaulted, kz_X4, kc_X4_lostUnfaulted, ⟨by decide +kernel, by decide +kernel, by decide +kernel⟩⟩
theorem kc_X4_takeWay : Cond.code yX4_takeWay cX4_takeWay 9 (some .int) ∈ gtbl := (g_tb 359 (by decide +kernel) (by decide +kernel))
theorem ki_X4_takeWay : Cond.instanceMethod yX4_takeWay ∈ gtbl := (g_tb 358 (by decide +kernel) (by decide +kernel))
theorem ks_X4_takeWay : Cond.selects yX4_takeWay.cls yX4_takeWay yX4_takeWay ∈ gtbl := g_sl 11 (by decide +kernel) (by decide +kernel)
theorem mv_X4_151 : okV RX4 151 yX4_takeWay cX4_takeWay 9 (some .int) 4 := ⟨(g_tb 356 (by decide +kernel) (by decide +kernel)), ki_X4_takeWay, ks_X4_takeWay, kz_X4, kc_X4_takeWay, ⟨by decide +kernel, by decide +kernel, by decide +kernel⟩⟩
theorem kc_X3_begin : Cond.code yX3_begin cX3_begin 1 none ∈ gtbl := (g_tb 363 (by decide +kernel) (by decide +kernel))
theorem ki_X3_begin : Cond.instanceMethod yX3_begin ∈ gtbl := (g_tb 361 (by decide +kernel) (by decide +kernel))
theorem ks_X3_begin : Cond.selects yX3_begin.cls yX3_begin yX3_begin ∈ gtbl := (g_tb 362 (by decide +kernel) (by decide +kernel))
theorem mv_X4_182 : okV RX4 182 yX3_begin cX3_begin 1 none 0 := ⟨(g_tb 360 (by decide +kernel) (by decide +kernel)), ki_X3_begin, ks_X3_begin, kz_X3, kc_X3_begin, ⟨by decide +kernel, by decide +kernel, by decide +kernel⟩⟩
theorem kc_X3_goOn : Cond.code yX3_goOn cX3_goOn 2 none ∈ gtbl := (g_tb 367 (by decide +kernel) (by decide +kernel))
theorem ki_X3_goOn : Cond.instanceMethod yX3_goOn ∈ gtbl := (g_tb 365 (by decide +kernel) (by decide +kernel))
theorem ks_X3_goOn : Cond.selects yX3_goOn.cls yX3_goOn yX3_goOn ∈ gtbl := (g_tb 366 (by decide +kernel) (by decide +kernel))
theorem mv_X4_185 : okV RX4 185 yX3_goOn cX3_goOn 2 none 1 := ⟨(g_tb 364 (by decide +kernel) (by decide +kernel)), ki_X3_goOn, ks_X3_goOn, kz_X3, kc_X3_goOn, ⟨by decide +kernel, by decide +kernel, by decide +kernel⟩⟩
theorem kc_X3_costIn : Cond.code yX3_costIn cX3_costIn 5 (some .long) ∈ gtbl := (g_tb 371 (by decide +kernel) (by decide +kernel))
theorem ki_X3_costIn : Cond.instanceMethod yX3_costIn ∈ gtbl := (g_tb 369 (by decide +kernel) (by decide +kernel))
theorem ks_X3_costIn : Cond.selects yX3_costIn.cls yX3_costIn yX3_costIn ∈ gtbl := (g_tb 370 (by decide +kernel) (by decide +kernel))
theorem mv_X4_155 : okV RX4 155 yX3_costIn cX3_costIn 5 (some .long) 1 := ⟨(g_tb 368 (by decide +kernel) (by decide +kernel)), ki_X3_costIn, ks_X3_costIn, kz_X3, kc_X3_costIn, ⟨by decide +kernel, by decide +kernel, by decide +kernel⟩⟩
theorem mv_X3_19 : okV RX3 19 yX0_dutyAt cX0_dutyAt 2 (some .int) 1 := ⟨(g_tb 372 (by decide +kernel) (by decide +kernel)), ki_X0_dutyAt, ks_X0_dutyAt, kz_X0, kc_X0_dutyAt, ⟨by decide +kernel, by decide +kernel, by decide +kernel⟩⟩
theorem kc_X3_meanTaken : Cond.code yX3_meanTaken cX3_meanTaken 11 (some .long) ∈ gtbl := (g_tb 377 (by decide +kernel) (by decide +kernel))
theorem ki_X3_meanTaken : Cond.instanceMethod yX3_meanTaken ∈ gtbl := (g_tb 376 (by decide +kernel) (by decide +kernel))
theorem ks_X3_meanTaken : Cond.selects yX3_meanTaken.cls yX3_meanTaken yX3_meanTaken ∈ gtbl := g_sl 12 (by decide +kernel) (by decide +kernel)
theorem mv_X3_30 : okV RX3 30 yX3_meanTaken cX3_meanTaken 11 (some .long) 2 := ⟨(g_tb 374 (by decide +kernel) (by decide +kernel)), ki_X3_meanTaken, ks_X3_meanTaken, kz_X3, kc_X3_meanTaken, ⟨by decide +kernel, by decide +kernel, by decide +kernel⟩⟩
theorem mv_X3_36 : okV RX3 36 yX0_tenthsHeard cX0_tenthsHeard 3 (some .int) 2 := ⟨(g_tb 379 (by decide +kernel) (by decide +kernel)), ki_X0_tenthsHeard, ks_X0_tenthsHeard, kz_X0, kc_X0_tenthsHeard, ⟨by decide +kernel, by decide +kernel, by decide +kernel⟩⟩
theorem mv_X3_42 : okV RX3 42 yX0_weightOf cX0_weightOf 2 (some .int) 1 := ⟨(g_tb 381 (by decide +kernel) (by decide +kernel)), ki_X0_weightOf, ks_X0_weightOf, kz_X0, kc_X0_weightOf, ⟨by decide +kernel, by decide +kernel, by decide +kernel⟩⟩
theorem kc_X4_say : Cond.code yX4_say cX4_say 6 (some .int) ∈ gtbl := (g_tb 386 (by decide +kernel) (by decide +kernel))
theorem ki_X4_say : Cond.instanceMethod yX4_say ∈ gtbl := (g_tb 384 (by decide +kernel) (by decide +kernel))
theorem ks_X4_say : Cond.selects yX4_say.cls yX4_say yX4_say ∈ gtbl := (g_tb 385 (by decide +kernel) (by decide +kernel))
theorem mv_L_63 : okV RL 63 yX4_say cX4_say 6 (some .int) 4 := ⟨(g_tb 383 (by decide +kernel) (by decide +kernel)), ki_X4_say, ks_X4_say, kz_X4, kc_X4_say, ⟨by decide +kernel, by decide +kernel, by decide +kernel⟩⟩
theorem kc_X4_cheapestDeclared : Cond.code yX4_cheapestDeclared cX4_cheapestDeclared 9 (some .int) ∈ gtbl := (g_tb 390 (by decide +kernel) (by decide +kernel))
theorem ki_X4_cheapestDeclared : Cond.instanceMethod yX4_cheapestDeclared ∈ gtbl := (g_tb 389 (by decide +kernel) (by decide +kernel))
theorem ks_X4_cheapestDeclared : Cond.selects yX4_cheapestDeclared.cls yX4_cheapestDeclared yX4_cheapestDeclared ∈ gtbl := g_sl 13 (by decide +kernel) (by decide +kernel)
theorem mv_X4_161 : okV RX4 161 yX4_cheapestDeclared cX4_cheapestDeclared 9 (some .int) 0 := ⟨(g_tb 387 (by decide +kernel) (by decide +kernel)), ki_X4_cheapestDeclared, ks_X4_cheapestDeclared, kz_X4, kc_X4_cheapestDeclared, ⟨by decide +kernel, by decide +kernel, by decide +kernel⟩⟩
theorem kc_X0_allSilences : Cond.code yX0_allSilences cX0_allSilences 1 (some .int) ∈ gtbl := (g_tb 395 (by decide +kernel) (by decide +kernel))
theorem ki_X0_allSilences : Cond.instanceMethod yX0_allSilences ∈ gtbl := (g_tb 393 (by decide +kernel) (by decide +kernel))
theorem ks_X0_allSilences : Cond.selects yX0_allSilences.cls yX0_allSilences yX0_allSilences ∈ gtbl := (g_tb 394 (by decide +kernel) (by decide +kernel))
theorem mv_X4_201 : okV RX4 201 yX0_allSilences cX0_allSilences 1 (some .int) 0 := ⟨(g_tb 392 (by decide +kernel) (by decide +kernel)), ki_X0_allSilences, ks_X0_allSilences, kz_X0, kc_X0_allSilences, ⟨by decide +kernel, by decide +kernel, by decide +kernel⟩⟩
theorem kc_X4_pack : Cond.code yX4_pack cX4_pack 4 (some .int) ∈ gtbl := (g_tb 399 (by decide +kernel) (by decide +kernel))
theorem ki_X4_pack : Cond.instanceMethod yX4_pack ∈ gtbl := (g_tb 397 (by decide +kernel) (by decide +kernel))
theorem ks_X4_pack : Cond.selects yX4_pack.cls yX4_pack yX4_pack ∈ gtbl := (g_tb 398 (by decide +kernel) (by decide +kernel))
theorem mv_L_67 : okV RL 67 yX4_pack cX4_pack 4 (some .int) 1 := ⟨(g_tb 396 (by decide +kernel) (by decide +kernel)), ki_X4_pack, ks_X4_pack, kz_X4, kc_X4_pack, ⟨by decide +kernel, by decide +kernel, by decide +kernel⟩⟩
theorem kc_X0_carrierRow : Cond.code yX0_carrierRow cX0_carrierRow 3 (some .int) ∈ gtbl := (g_tb 403 (by decide +kernel) (by decide +kernel))
theorem ki_X0_carrierRow : Cond.instanceMethod yX0_carrierRow ∈ gtbl := (g_tb 401 (by decide +kernel) (by decide +kernel))
theorem ks_X0_carrierRow : Cond.selects yX0_carrierRow.cls yX0_carrierRow yX0_carrierRow ∈ gtbl := (g_tb 402 (by decide +kernel) (by decide +kernel))
theorem mv_X4_164 : okV RX4 164 yX0_carrierRow cX0_carrierRow 3 (some .int) 0 := ⟨(g_tb 400 (by decide +kernel) (by decide +kernel)), ki_X0_carrierRow, ks_X0_carrierRow, kz_X0, kc_X0_carrierRow, ⟨by decide +kernel, by decide +kernel, by decide +kernel⟩⟩
theorem kc_X4_cheapestCarrierRow : Cond.code yX4_cheapestCarrierRow cX4_cheapestCarrierRow 7 (some .int) ∈ gtbl := (g_tb 407 (by decide +kernel) (by decide +kernel))
theorem ki_X4_cheapestCarrierRow : Cond.instanceMethod yX4_cheapestCarrierRow ∈ gtbl := (g_tb 406 (by decide +kernel) (by decide +kernel))
theorem ks_X4_cheapestCarrierRow : Cond.selects yX4_cheapestCarrierRow.cls yX4_cheapestCarrierRow yX4_cheapestCarrierRow ∈ gtbl := g_sl 14 (by decide +kernel) (by decide +kernel)
theorem mv_X4_167 : okV RX4 167 yX4_cheapestCarrierRow cX4_cheapestCarrierRow 7 (some .int) 0 := ⟨(g_tb 404 (by decide +kernel) (by decide +kernel)), ki_X4_cheapestCarrierRow, ks_X4_cheapestCarrierRow, kz_X4, kc_X4_cheapestCarrierRow, ⟨by decide +kernel, by decide +kernel, by decide +kernel⟩⟩
theorem kc_X0_carrierRows : Cond.code yX0_carrierRows cX0_carrierRows 3 (some .int) ∈ gtbl := (g_tb 412 (by decide +kernel) (by decide +kernel))
theorem ki_X0_carrierRows : Cond.instanceMethod yX0_carrierRows ∈ gtbl := (g_tb 410 (by decide +kernel) (by decide +kernel))
theorem ks_X0_carrierRows : Cond.selects yX0_carrierRows.cls yX0_carrierRows yX0_carrierRows ∈ gtbl := (g_tb 411 (by decide +kernel) (by decide +kernel))
theorem mv_X4_255 : okV RX4 255 yX0_carrierRows cX0_carrierRows 3 (some .int) 0 := ⟨(g_tb 409 (by decide +kernel) (by decide +kernel)), ki_X0_carrierRows, ks_X0_carrierRows, kz_X0, kc_X0_carrierRows, ⟨by decide +kernel, by decide +kernel, by decide +kernel⟩⟩
theorem kc_X0_setCarrierRow : Cond.code yX0_setCarrierRow cX0_setCarrierRow 4 none ∈ gtbl := (g_tb 416 (by decide +kernel) (by decide +kernel))
theorem ki_X0_setCarrierRow : Cond.instanceMethod yX0_setCarrierRow ∈ gtbl := (g_tb 414 (by decide +kernel) (by decide +kernel))
theorem ks_X0_setCarrierRow : Cond.selects yX0_setCarrierRow.cls yX0_setCarrierRow yX0_setCarrierRow ∈ gtbl := (g_tb 415 (by decide +kernel) (by decide +kernel))
theorem mv_X4_170 : okV RX4 170 yX0_setCarrierRow cX0_setCarrierRow 4 none 1 := ⟨(g_tb 413 (by decide +kernel) (by decide +kernel)), ki_X0_setCarrierRow, ks_X0_setCarrierRow, kz_X0, kc_X0_setCarrierRow, ⟨by decide +kernel, by decide +kernel, by decide +kernel⟩⟩
theorem kc_X0_dutyAtAll : Cond.code yX0_dutyAtAll cX0_dutyAtAll 3 (some .int) ∈ gtbl := (g_tb 420 (by decide +kernel) (by decide +kernel))
theorem ki_X0_dutyAtAll : Cond.instanceMethod yX0_dutyAtAll ∈ gtbl := (g_tb 418 (by decide +kernel) (by decide +kernel))
theorem ks_X0_dutyAtAll : Cond.selects yX0_dutyAtAll.cls yX0_dutyAtAll yX0_dutyAtAll ∈ gtbl := (g_tb 419 (by decide +kernel) (by decide +kernel))
theorem mv_X4_174 : okV RX4 174 yX0_dutyAtAll cX0_dutyAtAll 3 (some .int) 0 := ⟨(g_tb 417 (by decide +kernel) (by decide +kernel)), ki_X0_dutyAtAll, ks_X0_dutyAtAll, kz_X0, kc_X0_dutyAtAll, ⟨by decide +kernel, by decide +kernel, by decide +kernel⟩⟩
theorem kc_X4_road : Cond.code yX4_road cX4_road 7 (some .int) ∈ gtbl := (g_tb 424 (by decide +kernel) (by decide +kernel))
theorem ki_X4_road : Cond.instanceMethod yX4_road ∈ gtbl := (g_tb 422 (by decide +kernel) (by decide +kernel))
theorem ks_X4_road : Cond.selects yX4_road.cls yX4_road yX4_road ∈ gtbl := (g_tb 423 (by decide +kernel) (by decide +kernel))
theorem mv_L_71 : okV RL 71 yX4_road cX4_road 7 (some .int) 0 := ⟨(g_tb 421 (by decide +kernel) (by decide +kernel)), ki_X4_road, ks_X4_road, kz_X4, kc_X4_road, ⟨by decide +kernel, by decide +kernel, by decide +kernel⟩⟩
theorem kc_X4_worth : Cond.code yX4_worth cX4_worth 10 (some .long) ∈ gtbl := (g_tb 428 (by decide +kernel) (by decide +kernel))
theorem ki_X4_worth : Cond.instanceMethod yX4_worth ∈ gtbl := (g_tb 426 (by decide +kernel) (by decide +kernel))
theorem ks_X4_worth : Cond.selects yX4_worth.cls yX4_worth yX4_worth ∈ gtbl := (g_tb 427 (by decide +kernel) (by decide +kernel))
theorem mv_L_76 : okV RL 76 yX4_worth cX4_worth 10 (some .long) 5 := ⟨(g_tb 425 (by decide +kernel) (by decide +kernel)), ki_X4_worth, ks_X4_worth, kz_X4, kc_X4_worth, ⟨by decide +kernel, by decide +kernel, by decide +kernel⟩⟩
theorem kc_X4_reading : Cond.code yX4_reading cX4_reading 4 (some .int) ∈ gtbl := (g_tb 432 (by decide +kernel) (by decide +kernel))
theorem ki_X4_reading : Cond.instanceMethod yX4_reading ∈ gtbl := (g_tb 430 (by decide +kernel) (by decide +kernel))
theorem ks_X4_reading : Cond.selects yX4_reading.cls yX4_reading yX4_reading ∈ gtbl := (g_tb 431 (by decide +kernel) (by decide +kernel))
theorem mv_L_80 : okV RL 80 yX4_reading cX4_reading 4 (some .int) 2 := ⟨(g_tb 429 (by decide +kernel) (by decide +kernel)), ki_X4_reading, ks_X4_reading, kz_X4, kc_X4_reading, ⟨by decide +kernel, by decide +kernel, by decide +kernel⟩⟩
theorem kc_X4_back : Cond.code yX4_back cX4_back 2 (some .int) ∈ gtbl := (g_tb 437 (by decide +kernel) (by decide +kernel))
theorem ki_X4_back : Cond.instanceMethod yX4_back ∈ gtbl := (g_tb 435 (by decide +kernel) (by decide +kernel))
theorem ks_X4_back : Cond.selects yX4_back.cls yX4_back yX4_back ∈ gtbl := (g_tb 436 (by decide +kernel) (by decide +kernel))
theorem mv_L_84 : okV RL 84 yX4_back cX4_back 2 (some .int) 1 := ⟨(g_tb 434 (by decide +kernel) (by decide +kernel)), ki_X4_back, ks_X4_back, kz_X4, kc_X4_back, ⟨by decide +kernel, by decide +kernel, by decide +kernel⟩⟩
theorem kc_X4_said : Cond.code yX4_said cX4_said 6 (some .int) ∈ gtbl := (g_tb 441 (by decide +kernel) (by decide +kernel))
theorem ki_X4_said : Cond.instanceMethod yX4_said ∈ gtbl := (g_tb 439 (by decide +kernel) (by decide +kernel))
theorem ks_X4_said : Cond.selects yX4_said.cls yX4_said yX4_said ∈ gtbl := (g_tb 440 (by decide +kernel) (by decide +kernel))
theorem mv_L_88 : okV RL 88 yX4_said cX4_said 6 (some .int) 1 := ⟨(g_tb 438 (by decide +kernel) (by decide +kernel)), ki_X4_said, ks_X4_said, kz_X4, kc_X4_said, ⟨by decide +kernel, by decide +kernel, by decide +kernel⟩⟩
theorem kc_X0_readingsAreSo : Cond.code yX0_readingsAreSo cX0_readingsAreSo 2 (some .boolean) ∈ gtbl := (g_tb 445 (by decide +kernel) (by decide +kernel))
theorem ki_X0_readingsAreSo : Cond.instanceMethod yX0_readingsAreSo ∈ gtbl := (g_tb 443 (by decide +kernel) (by decide +kernel))
theorem ks_X0_readingsAreSo : Cond.selects yX0_readingsAreSo.cls yX0_readingsAreSo yX0_readingsAreSo ∈ gtbl := (g_tb 444 (by decide +kernel) (by decide +kernel))
theorem mv_X4_204 : okV RX4 204 yX0_readingsAreSo cX0_readingsAreSo 2 (some .boolean) 0 := ⟨(g_tb 442 (by decide +kernel) (by decide +kernel)), ki_X0_readingsAreSo, ks_X0_readingsAreSo, kz_X0, kc_X0_readingsAreSo, ⟨by decide +kernel, by decide +kernel, by decide +kernel⟩⟩
theorem mv_X0_90 : okV RX0 90 yX0_dutyAt cX0_dutyAt 2 (some .int) 1 := ⟨(g_tb 446 (by decide +kernel) (by decide +kernel)), ki_X0_dutyAt, ks_X0_dutyAt, kz_X0, kc_X0_dutyAt, ⟨by decide +kernel, by decide +kernel, by decide +kernel⟩⟩
theorem kc_X4_frees : Cond.code yX4_frees cX4_frees 4 (some .int) ∈ gtbl := (g_tb 450 (by decide +kernel) (by decide +kernel))
theorem ki_X4_frees : Cond.instanceMethod yX4_frees ∈ gtbl := (g_tb 448 (by decide +kernel) (by decide +kernel))
theorem ks_X4_frees : Cond.selects yX4_frees.cls yX4_frees yX4_frees ∈ gtbl := (g_tb 449 (by decide +kernel) (by decide +kernel))
theorem mv_L_92 : okV RL 92 yX4_frees cX4_frees 4 (some .int) 0 := ⟨(g_tb 447 (by decide +kernel) (by decide +kernel)), ki_X4_frees, ks_X4_frees, kz_X4, kc_X4_frees, ⟨by decide +kernel, by decide +kernel, by decide +kernel⟩⟩
theorem kc_X4_laws : Cond.code yX4_laws cX4_laws 4 (some .int) ∈ gtbl := (g_tb 454 (by decide +kernel) (by decide +kernel))
theorem ki_X4_laws : Cond.instanceMethod yX4_laws ∈ gtbl := (g_tb 452 (by decide +kernel) (by decide +kernel))
theorem ks_X4_laws : Cond.selects yX4_laws.cls yX4_laws yX4_laws ∈ gtbl := (g_tb 453 (by decide +kernel) (by decide +kernel))
theorem mv_L_96 : okV RL 96 yX4_laws cX4_laws 4 (some .int) 0 := ⟨(g_tb 451 (by decide +kernel) (by decide +kernel)), ki_X4_laws, ks_X4_laws, kz_X4, kc_X4_laws, ⟨by decide +kernel, by decide +kernel, by decide +kernel⟩⟩
theorem kc_X4_kinds : Cond.code yX4_kinds cX4_kinds 5 (some .int) ∈ gtbl := (g_tb 458 (by decide +kernel) (by decide +kernel))
theorem ki_X4_kinds : Cond.instanceMethod yX4_kinds ∈ gtbl := (g_tb 456 (by decide +kernel) (by decide +kernel))
theorem ks_X4_kinds : Cond.selects yX4_kinds.cls yX4_kinds yX4_kinds ∈ gtbl := (g_tb 457 (by decide +kernel) (by decide +kernel))
theorem mv_L_100 : okV RL 100 yX4_kinds cX4_kinds 5 (some .int) 1 := ⟨(g_tb 455 (by decide +kernel) (by decide +kernel)), ki_X4_kinds, ks_X4_kinds, kz_X4, kc_X4_kinds, ⟨by decide +kernel, by decide +kernel, by decide +kernel⟩⟩
theorem kc_X4_odds : Cond.code yX4_odds cX4_odds 8 (some .long) ∈ gtbl := (g_tb 462 (by decide +kernel) (by decide +kernel))
theorem ki_X4_odds : Cond.instanceMethod yX4_odds ∈ gtbl := (g_tb 460 (by decide +kernel) (by decide +kernel))
theorem ks_X4_odds : Cond.selects yX4_odds.cls yX4_odds yX4_odds ∈ gtbl := (g_tb 461 (by decide +kernel) (by decide +kernel))
theorem mv_L_104 : okV RL 104 yX4_odds cX4_odds 8 (some .long) 3 := ⟨(g_tb 459 (by decide +kernel) (by decide +kernel)), ki_X4_odds, ks_X4_odds, kz_X4, kc_X4_odds, ⟨by decide +kernel, by decide +kernel, by decide +kernel⟩⟩
theorem kc_X4_sheet : Cond.code yX4_sheet cX4_sheet 5 (some .int) ∈ gtbl := (g_tb 466 (by decide +kernel) (by decide +kernel))
theorem ki_X4_sheet : Cond.instanceMethod yX4_sheet ∈ gtbl := (g_tb 464 (by decide +kernel) (by decide +kernel))
theorem ks_X4_sheet : Cond.selects yX4_sheet.cls yX4_sheet yX4_sheet ∈ gtbl := (g_tb 465 (by decide +kernel) (by decide +kernel))
theorem mv_L_109 : okV RL 109 yX4_sheet cX4_sheet 5 (some .int) 3 := ⟨(g_tb 463 (by decide +kernel) (by decide +kernel)), ki_X4_sheet, ks_X4_sheet, kz_X4, kc_X4_sheet, ⟨by decide +kernel, by decide +kernel, by decide +kernel⟩⟩
theorem kc_X1_begin : Cond.code yX1_begin cX1_begin 3 none ∈ gtbl := (g_tb 470 (by decide +kernel) (by decide +kernel))
theorem ki_X1_begin : Cond.instanceMethod yX1_begin ∈ gtbl := (g_tb 468 (by decide +kernel) (by decide +kernel))
theorem ks_X1_begin : Cond.selects yX1_begin.cls yX1_begin yX1_begin ∈ gtbl := (g_tb 469 (by decide +kernel) (by decide +kernel))
theorem mv_X4_207 : okV RX4 207 yX1_begin cX1_begin 3 none 2 := ⟨(g_tb 467 (by decide +kernel) (by decide +kernel)), ki_X1_begin, ks_X1_begin, kz_X1, kc_X1_begin, ⟨by decide +kernel, by decide +kernel, by decide +kernel⟩⟩
theorem ms_X1_19 : okS RX1 19 yJ7_fill_53178 cJ7_fill_53178 4 none 2 := ⟨(g_tb 471 (by decide +kernel) (by decide +kernel)), kt_J7_fill_53178, kz_J7, kc_J7_fill_53178, ⟨by decide +kernel, by decide +kernel, by decide +kernel⟩⟩
theorem kc_X4_lose : Cond.code yX4_lose cX4_lose 2 (some .int) ∈ gtbl := (g_tb 475 (by decide +kernel) (by decide +kernel))
theorem ki_X4_lose : Cond.instanceMethod yX4_lose ∈ gtbl := (g_tb 473 (by decide +kernel) (by decide +kernel))
theorem ks_X4_lose : Cond.selects yX4_lose.cls yX4_lose yX4_lose ∈ gtbl := (g_tb 474 (by decide +kernel) (by decide +kernel))
theorem mv_L_114 : okV RL 114 yX4_lose cX4_lose 2 (some .int) 1 := ⟨(g_tb 472 (by decide +kernel) (by decide +kernel)), ki_X4_lose, ks_X4_lose, kz_X4, kc_X4_lose, ⟨by decide +kernel, by decide +kernel, by decide +kernel⟩⟩
theorem mv_X4_213 : okV RX4 213 yX1_hasRow cX1_hasRow 1 (some .boolean) 0 := ⟨(g_tb 476 (by decide +kernel) (by decide +kernel)), ki_X1_hasRow, ks_X1_hasRow, kz_X1, kc_X1_hasRow, ⟨by decide +kernel, by decide +kernel, by decide +kernel⟩⟩
theorem kc_X1_drop : Cond.code yX1_drop cX1_drop 1 none ∈ gtbl := (g_tb 480 (by decide +kernel) (by decide +kernel))
theorem ki_X1_drop : Cond.instanceMethod yX1_drop ∈ gtbl := (g_tb 478 (by decide +kernel) (by decide +kernel))
theorem ks_X1_drop : Cond.selects yX1_drop.cls yX1_drop yX1_drop ∈ gtbl := (g_tb 479 (by decide +kernel) (by decide +kernel))
theorem mv_X4_216 : okV RX4 216 yX1_drop cX1_drop 1 none 0 := ⟨(g_tb 477 (by decide +kernel) (by decide +kernel)), ki_X1_drop, ks_X1_drop, kz_X1, kc_X1_drop, ⟨by decide +kernel, by decide +kernel, by decide +kernel⟩⟩
theorem kc_X4_put : Cond.code yX4_put cX4_put 5 (some .int) ∈ gtbl := (g_tb 484 (by decide +kernel) (by decide +kernel))
theorem ki_X4_put : Cond.instanceMethod yX4_put ∈ gtbl := (g_tb 482 (by decide +kernel) (by decide +kernel))
theorem ks_X4_put : Cond.selects yX4_put.cls yX4_put yX4_put ∈ gtbl := (g_tb 483 (by decide +kernel) (by decide +kernel))
theorem mv_L_118 : okV RL 118 yX4_put cX4_put 5 (some .int) 3 := ⟨(g_tb 481 (by decide +kernel) (by decide +kernel)), ki_X4_put, ks_X4_put, kz_X4, kc_X4_put, ⟨by decide +kernel, by decide +kernel, by decide +kernel⟩⟩
theorem mv_X4_219 : okV RX4 219 yX1_hasCell cX1_hasCell 2 (some .boolean) 1 := ⟨(g_tb 485 (by decide +kernel) (by decide +kernel)), ki_X1_hasCell, ks_X1_hasCell, kz_X1, kc_X1_hasCell, ⟨by decide +kernel, by decide +kernel, by decide +kernel⟩⟩
theorem kc_X1_cut : Cond.code yX1_cut cX1_cut 2 (some .int) ∈ gtbl := (g_tb 489 (by decide +kernel) (by decide +kernel))
theorem ki_X1_cut : Cond.instanceMethod yX1_cut ∈ gtbl := (g_tb 487 (by decide +kernel) (by decide +kernel))
theorem ks_X1_cut : Cond.selects yX1_cut.cls yX1_cut yX1_cut ∈ gtbl := (g_tb 488 (by decide +kernel) (by decide +kernel))
theorem mv_X4_225 : okV RX4 225 yX1_cut cX1_cut 2 (some .int) 1 := ⟨(g_tb 486 (by decide +kernel) (by decide +kernel)), ki_X1_cut, ks_X1_cut, kz_X1, kc_X1_cut, ⟨by decide +kernel, by decide +kernel, by decide +kernel⟩⟩
theorem kc_X4_cell : Cond.code yX4_cell cX4_cell 6 (some .long) ∈ gtbl := (g_tb 493 (by decide +kernel) (by decide +kernel))
theorem ki_X4_cell : Cond.instanceMethod yX4_cell ∈ gtbl := (g_tb 491 (by decide +kernel) (by decide +kernel))
theorem ks_X4_cell : Cond.selects yX4_cell.cls yX4_cell yX4_cell ∈ gtbl := (g_tb 492 (by decide +kernel) (by decide +kernel))
theorem mv_L_122 : okV RL 122 yX4_cell cX4_cell 6 (some .long) 3 := ⟨(g_tb 490 (by decide +kernel) (by decide +kernel)), ki_X4_cell, ks_X4_cell, kz_X4, kc_X4_cell, ⟨by decide +kernel, by decide +kernel, by decide +kernel⟩⟩
theorem kc_X4_copy : Cond.code yX4_copy cX4_copy 8 (some .int) ∈ gtbl := (g_tb 497 (by decide +kernel) (by decide +kernel))
theorem ki_X4_copy : Cond.instanceMethod yX4_copy ∈ gtbl := (g_tb 495 (by decide +kernel) (by decide +kernel))
theorem ks_X4_copy : Cond.selects yX4_copy.cls yX4_copy yX4_copy ∈ gtbl := (g_tb 496 (by decide +kernel) (by decide +kernel))
theorem mv_L_126 : okV RL 126 yX4_copy cX4_copy 8 (some .int) 5 := ⟨(g_tb 494 (by decide +kernel) (by decide +kernel)), ki_X4_copy, ks_X4_copy, kz_X4, kc_X4_copy, ⟨by decide +kernel, by decide +kernel, by decide +kernel⟩⟩
theorem kc_X4_tell : Cond.code yX4_tell cX4_tell 3 (some .int) ∈ gtbl := (g_tb 504 (by decide +kernel) (by decide +kernel))
theorem ki_X4_tell : Cond.instanceMethod yX4_tell ∈ gtbl := (g_tb 502 (by decide +kernel) (by decide +kernel))
theorem ks_X4_tell : Cond.selects yX4_tell.cls yX4_tell yX4_tell ∈ gtbl := (g_tb 503 (by decide +kernel) (by decide +kernel))
theorem mv_L_131 : okV RL 131 yX4_tell cX4_tell 3 (some .int) 1 := ⟨(g_tb 501 (by decide +kernel) (by decide +kernel)), ki_X4_tell, ks_X4_tell, kz_X4, kc_X4_tell, ⟨by decide +kernel, by decide +kernel, by decide +kernel⟩⟩
theorem kc_X4_heldTells : Cond.code yX4_heldTells cX4_heldTells 3 (some .int) ∈ gtbl := (g_tb 508 (by decide +kernel) (by decide +kernel))
theorem ki_X4_heldTells : Cond.instanceMethod yX4_heldTells ∈ gtbl := (g_tb 507 (by decide +kernel) (by decide +kernel))
theorem ks_X4_heldTells : Cond.selects yX4_heldTells.cls yX4_heldTells yX4_heldTells ∈ gtbl := g_sl 15 (by decide +kernel) (by decide +kernel)
theorem mv_X4_237 : okV RX4 237 yX4_heldTells cX4_heldTells 3 (some .int) 1 := ⟨(g_tb 505 (by decide +kernel) (by decide +kernel)), ki_X4_heldTells, ks_X4_heldTells, kz_X4, kc_X4_heldTells, ⟨by decide +kernel, by decide +kernel, by decide +kernel⟩⟩
theorem kc_X4_leave : Cond.code yX4_leave cX4_leave 2 none ∈ gtbl := (g_tb 512 (by decide +kernel) (by decide +kernel))
theorem ki_X4_leave : Cond.instanceMethod yX4_leave ∈ gtbl := (g_tb 511 (by decide +kernel) (by decide +kernel))
theorem ks_X4_leave : Cond.selects yX4_leave.cls yX4_leave yX4_leave ∈ gtbl := g_sl 16 (by decide +kernel) (by decide +kernel)
theorem mv_X4_246 : okV RX4 246 yX4_leave cX4_leave 2 none 1 := ⟨(g_tb 509 (by decide +kernel) (by decide +kernel)), ki_X4_leave, ks_X4_leave, kz_X4, kc_X4_leave, ⟨by decide +kernel, by decide +kernel, by decide +kernel⟩⟩
theorem kc_X4_keptTells : Cond.code yX4_keptTells cX4_keptTells 2 (some .int) ∈ gtbl := (g_tb 516 (by decide +kernel) (by decide +kernel))
theorem ki_X4_keptTells : Cond.instanceMethod yX4_keptTells ∈ gtbl := (g_tb 515 (by decide +kernel) (by decide +kernel))
theorem ks_X4_keptTells : Cond.selects yX4_keptTells.cls yX4_keptTells yX4_keptTells ∈ gtbl := g_sl 17 (by decide +kernel) (by decide +kernel)
theorem mv_X4_240 : okV RX4 240 yX4_keptTells cX4_keptTells 2 (some .int) 1 := ⟨(g_tb 513 (by decide +kernel) (by decide +kernel)), ki_X4_keptTells, ks_X4_keptTells, kz_X4, kc_X4_keptTells, ⟨by decide +kernel, by decide +kernel, by decide +kernel⟩⟩
theorem kc_X4_silenceTells : Cond.code yX4_silenceTells cX4_silenceTells 2 (some .int) ∈ gtbl := (g_tb 520 (by decide +kernel) (by decide +kernel))
theorem ki_X4_silenceTells : Cond.instanceMethod yX4_silenceTells ∈ gtbl := (g_tb 519 (by decide +kernel) (by decide +kernel))
theorem ks_X4_silenceTells : Cond.selects yX4_silenceTells.cls yX4_silenceTells yX4_silenceTells ∈ gtbl := g_sl 18 (by decide +kernel) (by decide +kernel)
theorem mv_X4_243 : okV RX4 243 yX4_silenceTells cX4_silenceTells 2 (some .int) 1 := ⟨(g_tb 517 (by decide +kernel) (by decide +kernel)), ki_X4_silenceTells, ks_X4_silenceTells, kz_X4, kc_X4_silenceTells, ⟨by decide +kernel, by decide +kernel, by decide +kernel⟩⟩
theorem kc_X4_hush : Cond.code yX4_hush cX4_hush 2 (some .int) ∈ gtbl := (g_tb 524 (by decide +kernel) (by decide +kernel))
theorem ki_X4_hush : Cond.instanceMethod yX4_hush ∈ gtbl := (g_tb 522 (by decide +kernel) (by decide +kernel))
theorem ks_X4_hush : Cond.selects yX4_hush.cls yX4_hush yX4_hush ∈ gtbl := (g_tb 523 (by decide +kernel) (by decide +kernel))
theorem mv_L_135 : okV RL 135 yX4_hush cX4_hush 2 (some .int) 1 := ⟨(g_tb 521 (by decide +kernel) (by decide +kernel)), ki_X4_hush, ks_X4_hush, kz_X4, kc_X4_hush, ⟨by decide +kernel, by decide +kernel, by decide +kernel⟩⟩
theorem kc_X4_as : Cond.code yX4_as cX4_as 3 (some .int) ∈ gtbl := (g_tb 528 (by decide +kernel) (by decide +kernel))
theorem ki_X4_as : Cond.instanceMethod yX4_as ∈ gtbl := (g_tb 526 (by decide +kernel) (by decide +kernel))
theorem ks_X4_as : Cond.selects yX4_as.cls yX4_as yX4_as ∈ gtbl := (g_tb 527 (by decide +kernel) (by decide +kernel))
theorem mv_L_139 : okV RL 139 yX4_as cX4_as 3 (some .int) 2 := ⟨(g_tb 525 (by decide +kernel) (by decide +kernel)), ki_X4_as, ks_X4_as, kz_X4, kc_X4_as, ⟨by decide +kernel, by decide +kernel, by decide +kernel⟩⟩
theorem kc_X4_trace : Cond.code yX4_trace cX4_trace 1 (some .int) ∈ gtbl := (g_tb 532 (by decide +kernel) (by decide +kernel))
theorem ki_X4_trace : Cond.instanceMethod yX4_trace ∈ gtbl := (g_tb 530 (by decide +kernel) (by decide +kernel))
theorem ks_X4_trace : Cond.selects yX4_trace.cls yX4_trace yX4_trace ∈ gtbl := (g_tb 531 (by decide +kernel) (by decide +kernel))
theorem mv_L_143 : okV RL 143 yX4_trace cX4_trace 1 (some .int) 0 := ⟨(g_tb 529 (by decide +kernel) (by decide +kernel)), ki_X4_trace, ks_X4_trace, kz_X4, kc_X4_trace, ⟨by decide +kernel, by decide +kernel, by decide +kernel⟩⟩
theorem kc_X4_fault : Cond.code yX4_fault cX4_fault 1 (some .int) ∈ gtbl := (g_tb 536 (by decide +kernel) (by decide +kernel))
theorem ki_X4_fault : Cond.instanceMethod yX4_fault ∈ gtbl := (g_tb 534 (by decide +kernel) (by decide +kernel))
theorem ks_X4_fault : Cond.selects yX4_fault.cls yX4_fault yX4_fault ∈ gtbl := (g_tb 535 (by decide +kernel) (by decide +kernel))
theorem mv_L_147 : okV RL 147 yX4_fault cX4_fault 1 (some .int) 0 := ⟨(g_tb 533 (by decide +kernel) (by decide +kernel)), ki_X4_fault, ks_X4_fault, kz_X4, kc_X4_fault, ⟨by decide +kernel, by decide +kernel, by decide +kernel⟩⟩
theorem kc_X4_many : Cond.code yX4_many cX4_many 2 (some .int) ∈ gtbl := (g_tb 540 (by decide +kernel) (by decide +kernel))
theorem ki_X4_many : Cond.instanceMethod yX4_many ∈ gtbl := (g_tb 538 (by decide +kernel) (by decide +kernel))
theorem ks_X4_many : Cond.selects yX4_many.cls yX4_many yX4_many ∈ gtbl := (g_tb 539 (by decide +kernel) (by decide +kernel))
theorem mv_L_151 : okV RL 151 yX4_many cX4_many 2 (some .int) 1 := ⟨(g_tb 537 (by decide +kernel) (by decide +kernel)), ki_X4_many, ks_X4_many, kz_X4, kc_X4_many, ⟨by decide +kernel, by decide +kernel, by decide +kernel⟩⟩
theorem kc_X5_init : Cond.code yX5_init cX5_init 2 none ∈ gtbl := (g_tb 545 (by decide +kernel) (by decide +kernel))
theorem ki_X5_init : Cond.instanceMethod yX5_init ∈ gtbl := (g_tb 544 (by decide +kernel) (by decide +kernel))
theorem kl_L_12 : Cond.methodLink RL 12 yX5_init ∈ gtbl := (g_tb 543 (by decide +kernel) (by decide +kernel))
theorem kc_X5_frontier : Cond.code yX5_frontier cX5_frontier 7 (some .int) ∈ gtbl := (g_tb 653 (by decide +kernel) (by decide +kernel))
theorem ki_X5_frontier : Cond.instanceMethod yX5_frontier ∈ gtbl := (g_tb 651 (by decide +kernel) (by decide +kernel))
theorem ks_X5_frontier : Cond.selects yX5_frontier.cls yX5_frontier yX5_frontier ∈ gtbl := (g_tb 652 (by decide +kernel) (by decide +kernel))
theorem mv_L_17 : okV RL 17 yX5_frontier cX5_frontier 7 (some .int) 4 := ⟨(g_tb 650 (by decide +kernel) (by decide +kernel)), ki_X5_frontier, ks_X5_frontier, kz_X5, kc_X5_frontier, ⟨by decide +kernel, by decide +kernel, by decide +kernel⟩⟩
theorem kc_X5_noSheet : Cond.code yX5_noSheet cX5_noSheet 1 (some .boolean) ∈ gtbl := (g_tb 656 (by decide +kernel) (by decide +kernel))
theorem kt_X5_noSheet : Cond.static yX5_noSheet ∈ gtbl := (g_tb 655 (by decide +kernel) (by decide +kernel))
theorem ms_X5_137 : okS RX5 137 yX5_noSheet cX5_noSheet 1 (some .boolean) 1 := ⟨(g_tb 654 (by decide +kernel) (by decide +kernel)), kt_X5_noSheet, kz_X5, kc_X5_noSheet, ⟨by decide +kernel, by decide +kernel, by decide +kernel⟩⟩
theorem kc_X5_in : Cond.code yX5_in cX5_in 6 (some .boolean) ∈ gtbl := (g_tb 660 (by decide +kernel) (by decide +kernel))
theorem kt_X5_in : Cond.static yX5_in ∈ gtbl := (g_tb 659 (by decide +kernel) (by decide +kernel))
theorem ms_X5_91 : okS RX5 91 yX5_in cX5_in 6 (some .boolean) 3 := ⟨(g_tb 658 (by decide +kernel) (by decide +kernel)), kt_X5_in, kz_X5, kc_X5_in, ⟨by decide +kernel, by decide +kernel, by decide +kernel⟩⟩
theorem kc_X5_refused : Cond.code yX5_refused cX5_refused 2 (some .int) ∈ gtbl := (g_tb 664 (by decide +kernel) (by decide +kernel))
theorem ki_X5_refused : Cond.instanceMethod yX5_refused ∈ gtbl := (g_tb 663 (by decide +kernel) (by decide +kernel))
theorem ks_X5_refused : Cond.selects yX5_refused.cls yX5_refused yX5_refused ∈ gtbl := g_sl 19 (by decide +kernel) (by decide +kernel)
theorem mv_X5_141 : okV RX5 141 yX5_refused cX5_refused 2 (some .int) 1 := ⟨(g_tb 661 (by decide +kernel) (by decide +kernel)), ki_X5_refused, ks_X5_refused, kz_X5, kc_X5_refused, ⟨by decide +kernel, by decide +kernel, by decide +kernel⟩⟩
theorem kc_X5_cellsBarred : Cond.code yX5_cellsBarred cX5_cellsBarred 6 (some .int) ∈ gtbl := (g_tb 669 (by decide +kernel) (by decide +kernel))
theorem ki_X5_cellsBarred : Cond.instanceMethod yX5_cellsBarred ∈ gtbl := (g_tb 668 (by decide +kernel) (by decide +kernel))
theorem ks_X5_cellsBarred : Cond.selects yX5_cellsBarred.cls yX5_cellsBarred yX5_cellsBarred ∈ gtbl := g_sl 20 (by decide +kernel) (by decide +kernel)
theorem mv_X5_144 : okV RX5 144 yX5_cellsBarred cX5_cellsBarred 6 (some .int) 4 := ⟨(g_tb 666 (by decide +kernel) (by decide +kernel)), ki_X5_cellsBarred, ks_X5_cellsBarred, kz_X5, kc_X5_cellsBarred, ⟨by decide +kernel, by decide +kernel, by decide +kernel⟩⟩
theorem kc_X5_failed : Cond.code yX5_failed cX5_failed 2 (some .int) ∈ gtbl := (g_tb 673 (by decide +kernel) (by decide +kernel))
theorem ki_X5_failed : Cond.instanceMethod yX5_failed ∈ gtbl := (g_tb 672 (by decide +kernel) (by decide +kernel))
theorem ks_X5_failed : Cond.selects yX5_failed.cls yX5_failed yX5_failed ∈ gtbl := g_sl 21 (by decide +kernel) (by decide +kernel)
theorem mv_X5_129 : okV RX5 129 yX5_failed cX5_failed 2 (some .int) 1 := ⟨(g_tb 670 (by decide +kernel) (by decide +kernel)), ki_X5_failed, ks_X5_failed, kz_X5, kc_X5_failed, ⟨by decide +kernel, by decide +kernel, by decide +kernel⟩⟩
theorem kc_X5_isBeyond : Cond.code yX5_isBeyond cX5_isBeyond 4 (some .boolean) ∈ gtbl := (g_tb 676 (by decide +kernel) (by decide +kernel))
theorem kt_X5_isBeyond : Cond.static yX5_isBeyond ∈ gtbl := (g_tb 675 (by decide +kernel) (by decide +kernel))
theorem ms_X5_133 : okS RX5 133 yX5_isBeyond cX5_isBeyond 4 (some .boolean) 3 := ⟨(g_tb 674 (by decide +kernel) (by decide +kernel)), kt_X5_isBeyond, kz_X5, kc_X5_isBeyond, ⟨by decide +kernel, by decide +kernel, by decide +kernel⟩⟩
theorem kc_X5_readsFrontier : Cond.code yX5_readsFrontier cX5_readsFrontier 4 (some .boolean) ∈ gtbl := (g_tb 680 (by decide +kernel) (by decide +kernel))
theorem ki_X5_readsFrontier : Cond.instanceMethod yX5_readsFrontier ∈ gtbl := (g_tb 679 (by decide +kernel) (by decide +kernel))
theorem ks_X5_readsFrontier : Cond.selects yX5_readsFrontier.cls yX5_readsFrontier yX5_readsFrontier ∈ gtbl := g_sl 22 (by decide +kernel) (by decide +kernel)
theorem mv_X5_148 : okV RX5 148 yX5_readsFrontier cX5_readsFrontier 4 (some .boolean) 2 := ⟨(g_tb 677 (by decide +kernel) (by decide +kernel)), ki_X5_readsFrontier, ks_X5_readsFrontier, kz_X5, kc_X5_readsFrontier, ⟨by decide +kernel, by decide +kernel, by decide +kernel⟩⟩
theorem kc_X5_codeAt : Cond.code yX5_codeAt cX5_codeAt 3 (some .int) ∈ gtbl := (g_tb 684 (by decide +kernel) (by decide +kernel))
theorem ki_X5_codeAt : Cond.instanceMethod yX5_codeAt ∈ gtbl := (g_tb 683 (by decide +kernel) (by decide +kernel))
theorem ks_X5_codeAt : Cond.selects yX5_codeAt.cls yX5_codeAt yX5_codeAt ∈ gtbl := g_sl 23 (by decide +kernel) (by decide +kernel)
theorem mv_X5_103 : okV RX5 103 yX5_codeAt cX5_codeAt 3 (some .int) 2 := ⟨(g_tb 681 (by decide +kernel) (by decide +kernel)), ki_X5_codeAt, ks_X5_codeAt, kz_X5, kc_X5_codeAt, ⟨by decide +kernel, by decide +kernel, by decide +kernel⟩⟩
theorem kc_X5_figure : Cond.code yX5_figure cX5_figure 6 (some .int) ∈ gtbl := (g_tb 688 (by decide +kernel) (by decide +kernel))
theorem ki_X5_figure : Cond.instanceMethod yX5_figure ∈ gtbl := (g_tb 687 (by decide +kernel) (by decide +kernel))
theorem ks_X5_figure : Cond.selects yX5_figure.cls yX5_figure yX5_figure ∈ gtbl := g_sl 24 (by decide +kernel) (by decide +kernel)
theorem mv_X5_112 : okV RX5 112 yX5_figure cX5_figure 6 (some .int) 3 := ⟨(g_tb 685 (by decide +kernel) (by decide +kernel)), ki_X5_figure, ks_X5_figure, kz_X5, kc_X5_figure, ⟨by decide +kernel, by decide +kernel, by decide +kernel⟩⟩
theorem kc_X5_readsPost : Cond.code yX5_readsPost cX5_readsPost 5 (some .boolean) ∈ gtbl := (g_tb 693 (by decide +kernel) (by decide +kernel))
theorem ki_X5_readsPost : Cond.instanceMethod yX5_readsPost ∈ gtbl := (g_tb 692 (by decide +kernel) (by decide +kernel))
theorem ks_X5_readsPost : Cond.selects yX5_readsPost.cls yX5_readsPost yX5_readsPost ∈ gtbl := g_sl 25 (by decide +kernel) (by decide +kernel)
theorem mv_X5_122 : okV RX5 122 yX5_readsPost cX5_readsPost 5 (some .boolean) 2 := ⟨(g_tb 690 (by decide +kernel) (by decide +kernel)), ki_X5_readsPost, ks_X5_readsPost, kz_X5, kc_X5_readsPost, ⟨by decide +kernel, by decide +kernel, by decide +kernel⟩⟩
theorem kc_X5_readsSilence : Cond.code yX5_readsSilence cX5_readsSilence 6 (some .boolean) ∈ gtbl := (g_tb 697 (by decide +kernel) (by decide +kernel))
theorem ki_X5_readsSilence : Cond.instanceMethod yX5_readsSilence ∈ gtbl := (g_tb 696 (by decide +kernel) (by decide +kernel))
theorem ks_X5_readsSilence : Cond.selects yX5_readsSilence.cls yX5_readsSilence yX5_readsSilence ∈ gtbl := g_sl 26 (by decide +kernel) (by decide +kernel)
theorem mv_X5_126 : okV RX5 126 yX5_readsSilence cX5_readsSilence 6 (some .boolean) 2 := ⟨(g_tb 694 (by decide +kernel) (by decide +kernel)), ki_X5_readsSilence, ks_X5_readsSilence, kz_X5, kc_X5_readsSilence, ⟨by decide +kernel, by decide +kernel, by decide +kernel⟩⟩
theorem kc_X5_all : Cond.code yX5_all cX5_all 1 (some .int) ∈ gtbl := (g_tb 701 (by decide +kernel) (by decide +kernel))
theorem ki_X5_all : Cond.instanceMethod yX5_all ∈ gtbl := (g_tb 700 (by decide +kernel) (by decide +kernel))
theorem ks_X5_all : Cond.selects yX5_all.cls yX5_all yX5_all ∈ gtbl := g_sl 27 (by decide +kernel) (by decide +kernel)
theorem mv_X5_154 : okV RX5 154 yX5_all cX5_all 1 (some .int) 0 := ⟨(g_tb 698 (by decide +kernel) (by decide +kernel)), ki_X5_all, ks_X5_all, kz_X5, kc_X5_all, ⟨by decide +kernel, by decide +kernel, by decide +kernel⟩⟩
theorem kc_X5_ofPost : Cond.code yX5_ofPost cX5_ofPost 3 (some .int) ∈ gtbl := (g_tb 705 (by decide +kernel) (by decide +kernel))
theorem ki_X5_ofPost : Cond.instanceMethod yX5_ofPost ∈ gtbl := (g_tb 703 (by decide +kernel) (by decide +kernel))
theorem ks_X5_ofPost : Cond.selects yX5_ofPost.cls yX5_ofPost yX5_ofPost ∈ gtbl := (g_tb 704 (by decide +kernel) (by decide +kernel))
theorem mv_L_22 : okV RL 22 yX5_ofPost cX5_ofPost 3 (some .int) 2 := ⟨(g_tb 702 (by decide +kernel) (by decide +kernel)), ki_X5_ofPost, ks_X5_ofPost, kz_X5, kc_X5_ofPost, ⟨by decide +kernel, by decide +kernel, by decide +kernel⟩⟩
theorem kc_X5_noPost : Cond.code yX5_noPost cX5_noPost 2 (some .boolean) ∈ gtbl := (g_tb 709 (by decide +kernel) (by decide +kernel))
theorem ki_X5_noPost : Cond.instanceMethod yX5_noPost ∈ gtbl := (g_tb 708 (by decide +kernel) (by decide +kernel))
theorem ks_X5_noPost : Cond.selects yX5_noPost.cls yX5_noPost yX5_noPost ∈ gtbl := g_sl 28 (by decide +kernel) (by decide +kernel)
theorem mv_X5_170 : okV RX5 170 yX5_noPost cX5_noPost 2 (some .boolean) 1 := ⟨(g_tb 706 (by decide +kernel) (by decide +kernel)), ki_X5_noPost, ks_X5_noPost, kz_X5, kc_X5_noPost, ⟨by decide +kernel, by decide +kernel, by decide +kernel⟩⟩
theorem kc_X5_ofSilence : Cond.code yX5_ofSilence cX5_ofSilence 3 (some .int) ∈ gtbl := (g_tb 713 (by decide +kernel) (by decide +kernel))
theorem ki_X5_ofSilence : Cond.instanceMethod yX5_ofSilence ∈ gtbl := (g_tb 711 (by decide +kernel) (by decide +kernel))
theorem ks_X5_ofSilence : Cond.selects yX5_ofSilence.cls yX5_ofSilence yX5_ofSilence ∈ gtbl := (g_tb 712 (by decide +kernel) (by decide +kernel))
theorem mv_L_26 : okV RL 26 yX5_ofSilence cX5_ofSilence 3 (some .int) 2 := ⟨(g_tb 710 (by decide +kernel) (by decide +kernel)), ki_X5_ofSilence, ks_X5_ofSilence, kz_X5, kc_X5_ofSilence, ⟨by decide +kernel, by decide +kernel, by decide +kernel⟩⟩
theorem kc_X5_noSilence : Cond.code yX5_noSilence cX5_noSilence 2 (some .boolean) ∈ gtbl := (g_tb 717 (by decide +kernel) (by decide +kernel))
theorem ki_X5_noSilence : Cond.instanceMethod yX5_noSilence ∈ gtbl := (g_tb 716 (by decide +kernel) (by decide +kernel))
theorem ks_X5_noSilence : Cond.selects yX5_noSilence.cls yX5_noSilence yX5_noSilence ∈ gtbl := g_sl 29 (by decide +kernel) (by decide +kernel)
theorem mv_X5_173 : okV RX5 173 yX5_noSilence cX5_noSilence 2 (some .boolean) 1 := ⟨(g_tb 714 (by decide +kernel) (by decide +kernel)), ki_X5_noSilence, ks_X5_noSilence, kz_X5, kc_X5_noSilence, ⟨by decide +kernel, by decide +kernel, by decide +kernel⟩⟩
theorem kc_X5_gradeOf : Cond.code yX5_gradeOf cX5_gradeOf 3 (some .int) ∈ gtbl := (g_tb 721 (by decide +kernel) (by decide +kernel))
theorem ki_X5_gradeOf : Cond.instanceMethod yX5_gradeOf ∈ gtbl := (g_tb 720 (by decide +kernel) (by decide +kernel))
theorem ks_X5_gradeOf : Cond.selects yX5_gradeOf.cls yX5_gradeOf yX5_gradeOf ∈ gtbl := g_sl 30 (by decide +kernel) (by decide +kernel)
theorem mv_X5_176 : okV RX5 176 yX5_gradeOf cX5_gradeOf 3 (some .int) 1 := ⟨(g_tb 718 (by decide +kernel) (by decide +kernel)), ki_X5_gradeOf, ks_X5_gradeOf, kz_X5, kc_X5_gradeOf, ⟨by decide +kernel, by decide +kernel, by decide +kernel⟩⟩
theorem kc_X5_isIn : Cond.code yX5_isIn cX5_isIn 2 (some .boolean) ∈ gtbl := (g_tb 724 (by decide +kernel) (by decide +kernel))
theorem kt_X5_isIn : Cond.static yX5_isIn ∈ gtbl := (g_tb 723 (by decide +kernel) (by decide +kernel))
theorem ms_X5_167 : okS RX5 167 yX5_isIn cX5_isIn 2 (some .boolean) 2 := ⟨(g_tb 722 (by decide +kernel) (by decide +kernel)), kt_X5_isIn, kz_X5, kc_X5_isIn, ⟨by decide +kernel, by decide +kernel, by decide +kernel⟩⟩
theorem kc_X5_isDutiable : Cond.code yX5_isDutiable cX5_isDutiable 2 (some .boolean) ∈ gtbl := (g_tb 728 (by decide +kernel) (by decide +kernel))
theorem ki_X5_isDutiable : Cond.instanceMethod yX5_isDutiable ∈ gtbl := (g_tb 727 (by decide +kernel) (by decide +kernel))
theorem ks_X5_isDutiable : Cond.selects yX5_isDutiable.cls yX5_isDutiable yX5_isDutiable ∈ gtbl := g_sl 31 (by decide +kernel) (by decide +kernel)
theorem mv_X5_179 : okV RX5 179 yX5_isDutiable cX5_isDutiable 2 (some .boolean) 1 := ⟨(g_tb 725 (by decide +kernel) (by decide +kernel)), ki_X5_isDutiable, ks_X5_isDutiable, kz_X5, kc_X5_isDutiable, ⟨by decide +kernel, by decide +kernel, by decide +kernel⟩⟩
theorem kc_X5_free : Cond.code yX5_free cX5_free 3 (some .int) ∈ gtbl := (g_tb 732 (by decide +kernel) (by decide +kernel))
theorem ki_X5_free : Cond.instanceMethod yX5_free ∈ gtbl := (g_tb 730 (by decide +kernel) (by decide +kernel))
theorem ks_X5_free : Cond.selects yX5_free.cls yX5_free yX5_free ∈ gtbl := (g_tb 731 (by decide +kernel) (by decide +kernel))
theorem mv_L_31 : okV RL 31 yX5_free cX5_free 3 (some .int) 1 := ⟨(g_tb 729 (by decide +kernel) (by decide +kernel)), ki_X5_free, ks_X5_free, kz_X5, kc_X5_free, ⟨by decide +kernel, by decide +kernel, by decide +kernel⟩⟩
theorem kc_X5_law : Cond.code yX5_law cX5_law 3 (some .int) ∈ gtbl := (g_tb 736 (by decide +kernel) (by decide +kernel))
theorem ki_X5_law : Cond.instanceMethod yX5_law ∈ gtbl := (g_tb 734 (by decide +kernel) (by decide +kernel))
theorem ks_X5_law : Cond.selects yX5_law.cls yX5_law yX5_law ∈ gtbl := (g_tb 735 (by decide +kernel) (by decide +kernel))
theorem mv_L_35 : okV RL 35 yX5_law cX5_law 3 (some .int) 1 := ⟨(g_tb 733 (by decide +kernel) (by decide +kernel)), ki_X5_law, ks_X5_law, kz_X5, kc_X5_law, ⟨by decide +kernel, by decide +kernel, by decide +kernel⟩⟩
theorem kc_X5_carry : Cond.code yX5_carry cX5_carry 4 (some .int) ∈ gtbl := (g_tb 741 (by decide +kernel) (by decide +kernel))
theorem ki_X5_carry : Cond.instanceMethod yX5_carry ∈ gtbl := (g_tb 739 (by decide +kernel) (by decide +kernel))
theorem ks_X5_carry : Cond.selects yX5_carry.cls yX5_carry yX5_carry ∈ gtbl := (g_tb 740 (by decide +kernel) (by decide +kernel))
theorem mv_L_39 : okV RL 39 yX5_carry cX5_carry 4 (some .int) 2 := ⟨(g_tb 738 (by decide +kernel) (by decide +kernel)), ki_X5_carry, ks_X5_carry, kz_X5, kc_X5_carry, ⟨by decide +kernel, by decide +kernel, by decide +kernel⟩⟩
theorem kc_X5_noCarrier : Cond.code yX5_noCarrier cX5_noCarrier 1 (some .boolean) ∈ gtbl := (g_tb 744 (by decide +kernel) (by decide +kernel))
theorem kt_X5_noCarrier : Cond.static yX5_noCarrier ∈ gtbl := (g_tb 743 (by decide +kernel) (by decide +kernel))
theorem ms_X5_184 : okS RX5 184 yX5_noCarrier cX5_noCarrier 1 (some .boolean) 1 := ⟨(g_tb 742 (by decide +kernel) (by decide +kernel)), kt_X5_noCarrier, kz_X5, kc_X5_noCarrier, ⟨by decide +kernel, by decide +kernel, by decide +kernel⟩⟩
theorem kc_X5_declare : Cond.code yX5_declare cX5_declare 4 (some .int) ∈ gtbl := (g_tb 748 (by decide +kernel) (by decide +kernel))
theorem ki_X5_declare : Cond.instanceMethod yX5_declare ∈ gtbl := (g_tb 746 (by decide +kernel) (by decide +kernel))
theorem ks_X5_declare : Cond.selects yX5_declare.cls yX5_declare yX5_declare ∈ gtbl := (g_tb 747 (by decide +kernel) (by decide +kernel))
theorem mv_L_44 : okV RL 44 yX5_declare cX5_declare 4 (some .int) 2 := ⟨(g_tb 745 (by decide +kernel) (by decide +kernel)), ki_X5_declare, ks_X5_declare, kz_X5, kc_X5_declare, ⟨by decide +kernel, by decide +kernel, by decide +kernel⟩⟩
theorem kc_X5_hum : Cond.code yX5_hum cX5_hum 4 (some .int) ∈ gtbl := (g_tb 752 (by decide +kernel) (by decide +kernel))
theorem ki_X5_hum : Cond.instanceMethod yX5_hum ∈ gtbl := (g_tb 750 (by decide +kernel) (by decide +kernel))
theorem ks_X5_hum : Cond.selects yX5_hum.cls yX5_hum yX5_hum ∈ gtbl := (g_tb 751 (by decide +kernel) (by decide +kernel))
theorem mv_L_48 : okV RL 48 yX5_hum cX5_hum 4 (some .int) 2 := ⟨(g_tb 749 (by decide +kernel) (by decide +kernel)), ki_X5_hum, ks_X5_hum, kz_X5, kc_X5_hum, ⟨by decide +kernel, by decide +kernel, by decide +kernel⟩⟩
theorem kc_X5_duty : Cond.code yX5_duty cX5_duty 2 (some .int) ∈ gtbl := (g_tb 756 (by decide +kernel) (by decide +kernel))
theorem ki_X5_duty : Cond.instanceMethod yX5_duty ∈ gtbl := (g_tb 754 (by decide +kernel) (by decide +kernel))
theorem ks_X5_duty : Cond.selects yX5_duty.cls yX5_duty yX5_duty ∈ gtbl := (g_tb 755 (by decide +kernel) (by decide +kernel))
theorem mv_L_52 : okV RL 52 yX5_duty cX5_duty 2 (some .int) 1 := ⟨(g_tb 753 (by decide +kernel) (by decide +kernel)), ki_X5_duty, ks_X5_duty, kz_X5, kc_X5_duty, ⟨by decide +kernel, by decide +kernel, by decide +kernel⟩⟩
theorem kc_X5_dutyAt : Cond.code yX5_dutyAt cX5_dutyAt 4 (some .int) ∈ gtbl := (g_tb 760 (by decide +kernel) (by decide +kernel))
theorem ki_X5_dutyAt : Cond.instanceMethod yX5_dutyAt ∈ gtbl := (g_tb 759 (by decide +kernel) (by decide +kernel))
theorem ks_X5_dutyAt : Cond.selects yX5_dutyAt.cls yX5_dutyAt yX5_dutyAt ∈ gtbl := g_sl 32 (by decide +kernel) (by decide +kernel)
theorem mv_X5_190 : okV RX5 190 yX5_dutyAt cX5_dutyAt 4 (some .int) 1 := ⟨(g_tb 757 (by decide +kernel) (by decide +kernel)), ki_X5_dutyAt, ks_X5_dutyAt, kz_X5, kc_X5_dutyAt, ⟨by decide +kernel, by decide +kernel, by decide +kernel⟩⟩
theorem kc_X5_dutyOf : Cond.code yX5_dutyOf cX5_dutyOf 6 (some .int) ∈ gtbl := (g_tb 764 (by decide +kernel) (by decide +kernel))
theorem ki_X5_dutyOf : Cond.instanceMethod yX5_dutyOf ∈ gtbl := (g_tb 763 (by decide +kernel) (by decide +kernel))
theorem ks_X5_dutyOf : Cond.selects yX5_dutyOf.cls yX5_dutyOf yX5_dutyOf ∈ gtbl := g_sl 33 (by decide +kernel) (by decide +kernel)
theorem mv_X5_187 : okV RX5 187 yX5_dutyOf cX5_dutyOf 6 (some .int) 2 := ⟨(g_tb 761 (by decide +kernel) (by decide +kernel)), ki_X5_dutyOf, ks_X5_dutyOf, kz_X5, kc_X5_dutyOf, ⟨by decide +kernel, by decide +kernel, by decide +kernel⟩⟩
theorem kc_X5_clear : Cond.code yX5_clear cX5_clear 6 (some .long) ∈ gtbl := (g_tb 768 (by decide +kernel) (by decide +kernel))
theorem ki_X5_clear : Cond.instanceMethod yX5_clear ∈ gtbl := (g_tb 766 (by decide +kernel) (by decide +kernel))
theorem ks_X5_clear : Cond.selects yX5_clear.cls yX5_clear yX5_clear ∈ gtbl := (g_tb 767 (by decide +kernel) (by decide +kernel))
theorem mv_L_57 : okV RL 57 yX5_clear cX5_clear 6 (some .long) 2 := ⟨(g_tb 765 (by decide +kernel) (by decide +kernel)), ki_X5_clear, ks_X5_clear, kz_X5, kc_X5_clear, ⟨by decide +kernel, by decide +kernel, by decide +kernel⟩⟩
theorem kc_X5_lost : Cond.code yX5_lost cX5_lost 0 (some .long) ∈ gtbl := (g_tb 771 (by decide +kernel) (by decide +kernel))
theorem kt_X5_lost : Cond.static yX5_lost ∈ gtbl := (g_tb 770 (by decide +kernel) (by decide +kernel))
theorem ms_X5_84 : okS RX5 84 yX5_lost cX5_lost 0 (some .long) 0 := ⟨(g_tb 769 (by decide +kernel) (by decide +kernel)), kt_X5_lost, kz_X5, kc_X5_lost, ⟨by decide +kernel, by decide +kernel, by decide +kernel⟩⟩
theorem kc_X5_heardAt : Cond.code yX5_heardAt cX5_heardAt 4 (some .int) ∈ gtbl := (g_tb 777 (by decide +kernel) (by decide +kernel))
theorem ki_X5_heardAt : Cond.instanceMethod yX5_heardAt ∈ gtbl := (g_tb 776 (by decide +kernel) (by decide +kernel))
theorem ks_X5_heardAt : Cond.selects yX5_heardAt.cls yX5_heardAt yX5_heardAt ∈ gtbl := g_sl 34 (by decide +kernel) (by decide +kernel)
theorem mv_X5_193 : okV RX5 193 yX5_heardAt cX5_heardAt 4 (some .int) 2 := ⟨(g_tb 774 (by decide +kernel) (by decide +kernel)), ki_X5_heardAt, ks_X5_heardAt, kz_X5, kc_X5_heardAt, ⟨by decide +kernel, by decide +kernel, by decide +kernel⟩⟩
theorem kc_X5_tens : Cond.code yX5_tens cX5_tens 4 (some .long) ∈ gtbl := (g_tb 780 (by decide +kernel) (by decide +kernel))
theorem kt_X5_tens : Cond.static yX5_tens ∈ gtbl := (g_tb 779 (by decide +kernel) (by decide +kernel))
theorem ms_X5_196 : okS RX5 196 yX5_tens cX5_tens 4 (some .long) 1 := ⟨(g_tb 778 (by decide +kernel) (by decide +kernel)), kt_X5_tens, kz_X5, kc_X5_tens, ⟨by decide +kernel, by decide +kernel, by decide +kernel⟩⟩
theorem kc_X5_told : Cond.code yX5_told cX5_told 11 (some .long) ∈ gtbl := (g_tb 783 (by decide +kernel) (by decide +kernel))
theorem kt_X5_told : Cond.static yX5_told ∈ gtbl := (g_tb 782 (by decide +kernel) (by decide +kernel))
theorem ms_X5_200 : okS RX5 200 yX5_told cX5_told 11 (some .long) 3 := ⟨(g_tb 781 (by decide +kernel) (by decide +kernel)), kt_X5_told, kz_X5, kc_X5_told, ⟨by decide +kernel, by decide +kernel, by decide +kernel⟩⟩
theorem kc_X5_cost : Cond.code yX5_cost cX5_cost 6 (some .long) ∈ gtbl := (g_tb 787 (by decide +kernel) (by decide +kernel))
theorem ki_X5_cost : Cond.instanceMethod yX5_cost ∈ gtbl := (g_tb 785 (by decide +kernel) (by decide +kernel))
theorem ks_X5_cost : Cond.selects yX5_cost.cls yX5_cost yX5_cost ∈ gtbl := (g_tb 786 (by decide +kernel) (by decide +kernel))
theorem mv_L_62 : okV RL 62 yX5_cost cX5_cost 6 (some .long) 5 := ⟨(g_tb 784 (by decide +kernel) (by decide +kernel)), ki_X5_cost, ks_X5_cost, kz_X5, kc_X5_cost, ⟨by decide +kernel, by decide +kernel, by decide +kernel⟩⟩
theorem kc_X5_refusedLong : Cond.code yX5_refusedLong cX5_refusedLong 1 (some .long) ∈ gtbl := (g_tb 792 (by decide +kernel) (by decide +kernel))
theorem ki_X5_refusedLong : Cond.instanceMethod yX5_refusedLong ∈ gtbl := (g_tb 791 (by decide +kernel) (by decide +kernel))
theorem ks_X5_refusedLong : Cond.selects yX5_refusedLong.cls yX5_refusedLong yX5_refusedLong ∈ gtbl := g_sl 35 (by decide +kernel) (by decide +kernel)
theorem mv_X5_206 : okV RX5 206 yX5_refusedLong cX5_refusedLong 1 (some .long) 0 := ⟨(g_tb 789 (by decide +kernel) (by decide +kernel)), ki_X5_refusedLong, ks_X5_refusedLong, kz_X5, kc_X5_refusedLong, ⟨by decide +kernel, by decide +kernel, by decide +kernel⟩⟩
theorem kc_X5_wayBarred : Cond.code yX5_wayBarred cX5_wayBarred 7 (some .int) ∈ gtbl := (g_tb 796 (by decide +kernel) (by decide +kernel))
theorem ki_X5_wayBarred : Cond.instanceMethod yX5_wayBarred ∈ gtbl := (g_tb 795 (by decide +kernel) (by decide +kernel))
theorem ks_X5_wayBarred : Cond.selects yX5_wayBarred.cls yX5_wayBarred yX5_wayBarred ∈ gtbl := g_sl 36 (by decide +kernel) (by decide +kernel)
theorem mv_X5_209 : okV RX5 209 yX5_wayBarred cX5_wayBarred 7 (some .int) 4 := ⟨(g_tb 793 (by decide +kernel) (by decide +kernel)), ki_X5_wayBarred, ks_X5_wayBarred, kz_X5, kc_X5_wayBarred, ⟨by decide +kernel, by decide +kernel, by decide +kernel⟩⟩
theorem kc_X5_costNow : Cond.code yX5_costNow cX5_costNow 9 (some .long) ∈ gtbl := (g_tb 800 (by decide +kernel) (by decide +kernel))
theorem ki_X5_costNow : Cond.instanceMethod yX5_costNow ∈ gtbl := (g_tb 799 (by decide +kernel) (by decide +kernel))
theorem ks_X5_costNow : Cond.selects yX5_costNow.cls yX5_costNow yX5_costNow ∈ gtbl := g_sl 37 (by decide +kernel) (by decide +kernel)
theorem mv_X5_213 : okV RX5 213 yX5_costNow cX5_costNow 9 (some .long) 1 := ⟨(g_tb 797 (by decide +kernel) (by decide +kernel)), ki_X5_costNow, ks_X5_costNow, kz_X5, kc_X5_costNow, ⟨by decide +kernel, by decide +kernel, by decide +kernel⟩⟩
theorem kc_X5_say : Cond.code yX5_say cX5_say 13 (some .int) ∈ gtbl := (g_tb 804 (by decide +kernel) (by decide +kernel))
theorem ki_X5_say : Cond.instanceMethod yX5_say ∈ gtbl := (g_tb 802 (by decide +kernel) (by decide +kernel))
theorem ks_X5_say : Cond.selects yX5_say.cls yX5_say yX5_say ∈ gtbl := (g_tb 803 (by decide +kernel) (by decide +kernel))
theorem mv_L_66 : okV RL 66 yX5_say cX5_say 13 (some .int) 4 := ⟨(g_tb 801 (by decide +kernel) (by decide +kernel)), ki_X5_say, ks_X5_say, kz_X5, kc_X5_say, ⟨by decide +kernel, by decide +kernel, by decide +kernel⟩⟩
theorem kc_X5_pack : Cond.code yX5_pack cX5_pack 8 (some .int) ∈ gtbl := (g_tb 808 (by decide +kernel) (by decide +kernel))
theorem ki_X5_pack : Cond.instanceMethod yX5_pack ∈ gtbl := (g_tb 806 (by decide +kernel) (by decide +kernel))
theorem ks_X5_pack : Cond.selects yX5_pack.cls yX5_pack yX5_pack ∈ gtbl := (g_tb 807 (by decide +kernel) (by decide +kernel))
theorem mv_L_70 : okV RL 70 yX5_pack cX5_pack 8 (some .int) 1 := ⟨(g_tb 805 (by decide +kernel) (by decide +kernel)), ki_X5_pack, ks_X5_pack, kz_X5, kc_X5_pack, ⟨by decide +kernel, by decide +kernel, by decide +kernel⟩⟩
theorem kc_X5_dutyEverywhere : Cond.code yX5_dutyEverywhere cX5_dutyEverywhere 3 (some .int) ∈ gtbl := (g_tb 812 (by decide +kernel) (by decide +kernel))
theorem ki_X5_dutyEverywhere : Cond.instanceMethod yX5_dutyEverywhere ∈ gtbl := (g_tb 811 (by decide +kernel) (by decide +kernel))
theorem ks_X5_dutyEverywhere : Cond.selects yX5_dutyEverywhere.cls yX5_dutyEverywhere yX5_dutyEverywhere ∈ gtbl := g_sl 38 (by decide +kernel) (by decide +kernel)
theorem mv_X5_216 : okV RX5 216 yX5_dutyEverywhere cX5_dutyEverywhere 3 (some .int) 0 := ⟨(g_tb 809 (by decide +kernel) (by decide +kernel)), ki_X5_dutyEverywhere, ks_X5_dutyEverywhere, kz_X5, kc_X5_dutyEverywhere, ⟨by decide +kernel, by decide +kernel, by decide +kernel⟩⟩
theorem kc_X5_road : Cond.code yX5_road cX5_road 7 (some .int) ∈ gtbl := (g_tb 816 (by decide +kernel) (by decide +kernel))
theorem ki_X5_road : Cond.instanceMethod yX5_road ∈ gtbl := (g_tb 814 (by decide +kernel) (by decide +kernel))
theorem ks_X5_road : Cond.selects yX5_road.cls yX5_road yX5_road ∈ gtbl := (g_tb 815 (by decide +kernel) (by decide +kernel))
theorem mv_L_75 : okV RL 75 yX5_road cX5_road 7 (some .int) 0 := ⟨(g_tb 813 (by decide +kernel) (by decide +kernel)), ki_X5_road, ks_X5_road, kz_X5, kc_X5_road, ⟨by decide +kernel, by decide +kernel, by decide +kernel⟩⟩
theorem kc_X5_worth : Cond.code yX5_worth cX5_worth 10 (some .long) ∈ gtbl := (g_tb 821 (by decide +kernel) (by decide +kernel))
theorem ki_X5_worth : Cond.instanceMethod yX5_worth ∈ gtbl := (g_tb 819 (by decide +kernel) (by decide +kernel))
theorem ks_X5_worth : Cond.selects yX5_worth.cls yX5_worth yX5_worth ∈ gtbl := (g_tb 820 (by decide +kernel) (by decide +kernel))
theorem mv_L_79 : okV RL 79 yX5_worth cX5_worth 10 (some .long) 5 := ⟨(g_tb 818 (by decide +kernel) (by decide +kernel)), ki_X5_worth, ks_X5_worth, kz_X5, kc_X5_worth, ⟨by decide +kernel, by decide +kernel, by decide +kernel⟩⟩
theorem kc_X5_reading : Cond.code yX5_reading cX5_reading 3 (some .int) ∈ gtbl := (g_tb 825 (by decide +kernel) (by decide +kernel))
theorem ki_X5_reading : Cond.instanceMethod yX5_reading ∈ gtbl := (g_tb 823 (by decide +kernel) (by decide +kernel))
theorem ks_X5_reading : Cond.selects yX5_reading.cls yX5_reading yX5_reading ∈ gtbl := (g_tb 824 (by decide +kernel) (by decide +kernel))
theorem mv_L_83 : okV RL 83 yX5_reading cX5_reading 3 (some .int) 2 := ⟨(g_tb 822 (by decide +kernel) (by decide +kernel)), ki_X5_reading, ks_X5_reading, kz_X5, kc_X5_reading, ⟨by decide +kernel, by decide +kernel, by decide +kernel⟩⟩
theorem kc_X5_back : Cond.code yX5_back cX5_back 2 (some .int) ∈ gtbl := (g_tb 830 (by decide +kernel) (by decide +kernel))
theorem ki_X5_back : Cond.instanceMethod yX5_back ∈ gtbl := (g_tb 828 (by decide +kernel) (by decide +kernel))
theorem ks_X5_back : Cond.selects yX5_back.cls yX5_back yX5_back ∈ gtbl := (g_tb 829 (by decide +kernel) (by decide +kernel))
theorem mv_L_87 : okV RL 87 yX5_back cX5_back 2 (some .int) 1 := ⟨(g_tb 827 (by decide +kernel) (by decide +kernel)), ki_X5_back, ks_X5_back, kz_X5, kc_X5_back, ⟨by decide +kernel, by decide +kernel, by decide +kernel⟩⟩
theorem kc_X5_said : Cond.code yX5_said cX5_said 6 (some .int) ∈ gtbl := (g_tb 834 (by decide +kernel) (by decide +kernel))
theorem ki_X5_said : Cond.instanceMethod yX5_said ∈ gtbl := (g_tb 832 (by decide +kernel) (by decide +kernel))
theorem ks_X5_said : Cond.selects yX5_said.cls yX5_said yX5_said ∈ gtbl := (g_tb 833 (by decide +kernel) (by decide +kernel))
theorem mv_L_91 : okV RL 91 yX5_said cX5_said 6 (some .int) 1 := ⟨(g_tb 831 (by decide +kernel) (by decide +kernel)), ki_X5_said, ks_X5_said, kz_X5, kc_X5_said, ⟨by decide +kernel, by decide +kernel, by decide +kernel⟩⟩
theorem kc_X5_areSo : Cond.code yX5_areSo cX5_areSo 3 (some .boolean) ∈ gtbl := (g_tb 838 (by decide +kernel) (by decide +kernel))
theorem ki_X5_areSo : Cond.instanceMethod yX5_areSo ∈ gtbl := (g_tb 837 (by decide +kernel) (by decide +kernel))
theorem ks_X5_areSo : Cond.selects yX5_areSo.cls yX5_areSo yX5_areSo ∈ gtbl := g_sl 39 (by decide +kernel) (by decide +kernel)
theorem mv_X5_223 : okV RX5 223 yX5_areSo cX5_areSo 3 (some .boolean) 0 := ⟨(g_tb 835 (by decide +kernel) (by decide +kernel)), ki_X5_areSo, ks_X5_areSo, kz_X5, kc_X5_areSo, ⟨by decide +kernel, by decide +kernel, by decide +kernel⟩⟩
theorem kc_X5_frees : Cond.code yX5_frees cX5_frees 4 (some .int) ∈ gtbl := (g_tb 842 (by decide +kernel) (by decide +kernel))
theorem ki_X5_frees : Cond.instanceMethod yX5_frees ∈ gtbl := (g_tb 840 (by decide +kernel) (by decide +kernel))
theorem ks_X5_frees : Cond.selects yX5_frees.cls yX5_frees yX5_frees ∈ gtbl := (g_tb 841 (by decide +kernel) (by decide +kernel))
theorem mv_L_95 : okV RL 95 yX5_frees cX5_frees 4 (some .int) 0 := ⟨(g_tb 839 (by decide +kernel) (by decide +kernel)), ki_X5_frees, ks_X5_frees, kz_X5, kc_X5_frees, ⟨by decide +kernel, by decide +kernel, by decide +kernel⟩⟩
theorem kc_X5_laws : Cond.code yX5_laws cX5_laws 4 (some .int) ∈ gtbl := (g_tb 846 (by decide +kernel) (by decide +kernel))
theorem ki_X5_laws : Cond.instanceMethod yX5_laws ∈ gtbl := (g_tb 844 (by decide +kernel) (by decide +kernel))
theorem ks_X5_laws : Cond.selects yX5_laws.cls yX5_laws yX5_laws ∈ gtbl := (g_tb 845 (by decide +kernel) (by decide +kernel))
theorem mv_L_99 : okV RL 99 yX5_laws cX5_laws 4 (some .int) 0 := ⟨(g_tb 843 (by decide +kernel) (by decide +kernel)), ki_X5_laws, ks_X5_laws, kz_X5, kc_X5_laws, ⟨by decide +kernel, by decide +kernel, by decide +kernel⟩⟩
theorem kc_X5_kinds : Cond.code yX5_kinds cX5_kinds 5 (some .int) ∈ gtbl := (g_tb 850 (by decide +kernel) (by decide +kernel))
theorem ki_X5_kinds : Cond.instanceMethod yX5_kinds ∈ gtbl := (g_tb 848 (by decide +kernel) (by decide +kernel))
theorem ks_X5_kinds : Cond.selects yX5_kinds.cls yX5_kinds yX5_kinds ∈ gtbl := (g_tb 849 (by decide +kernel) (by decide +kernel))
theorem mv_L_103 : okV RL 103 yX5_kinds cX5_kinds 5 (some .int) 1 := ⟨(g_tb 847 (by decide +kernel) (by decide +kernel)), ki_X5_kinds, ks_X5_kinds, kz_X5, kc_X5_kinds, ⟨by decide +kernel, by decide +kernel, by decide +kernel⟩⟩
theorem kc_X5_odds : Cond.code yX5_odds cX5_odds 8 (some .long) ∈ gtbl := (g_tb 854 (by decide +kernel) (by decide +kernel))
theorem ki_X5_odds : Cond.instanceMethod yX5_odds ∈ gtbl := (g_tb 852 (by decide +kernel) (by decide +kernel))
theorem ks_X5_odds : Cond.selects yX5_odds.cls yX5_odds yX5_odds ∈ gtbl := (g_tb 853 (by decide +kernel) (by decide +kernel))
theorem mv_L_108 : okV RL 108 yX5_odds cX5_odds 8 (some .long) 3 := ⟨(g_tb 851 (by decide +kernel) (by decide +kernel)), ki_X5_odds, ks_X5_odds, kz_X5, kc_X5_odds, ⟨by decide +kernel, by decide +kernel, by decide +kernel⟩⟩
theorem kc_X5_sheet : Cond.code yX5_sheet cX5_sheet 5 (some .int) ∈ gtbl := (g_tb 858 (by decide +kernel) (by decide +kernel))
theorem ki_X5_sheet : Cond.instanceMethod yX5_sheet ∈ gtbl := (g_tb 856 (by decide +kernel) (by decide +kernel))
theorem ks_X5_sheet : Cond.selects yX5_sheet.cls yX5_sheet yX5_sheet ∈ gtbl := (g_tb 857 (by decide +kernel) (by decide +kernel))
theorem mv_L_113 : okV RL 113 yX5_sheet cX5_sheet 5 (some .int) 3 := ⟨(g_tb 855 (by decide +kernel) (by decide +kernel)), ki_X5_sheet, ks_X5_sheet, kz_X5, kc_X5_sheet, ⟨by decide +kernel, by decide +kernel, by decide +kernel⟩⟩
theorem kc_X5_lose : Cond.code yX5_lose cX5_lose 3 (some .int) ∈ gtbl := (g_tb 862 (by decide +kernel) (by decide +kernel))
theorem ki_X5_lose : Cond.instanceMethod yX5_lose ∈ gtbl := (g_tb 860 (by decide +kernel) (by decide +kernel))
theorem ks_X5_lose : Cond.selects yX5_lose.cls yX5_lose yX5_lose ∈ gtbl := (g_tb 861 (by decide +kernel) (by decide +kernel))
theorem mv_L_117 : okV RL 117 yX5_lose cX5_lose 3 (some .int) 1 := ⟨(g_tb 859 (by decide +kernel) (by decide +kernel)), ki_X5_lose, ks_X5_lose, kz_X5, kc_X5_lose, ⟨by decide +kernel, by decide +kernel, by decide +kernel⟩⟩
theorem kc_X5_put : Cond.code yX5_put cX5_put 4 (some .int) ∈ gtbl := (g_tb 866 (by decide +kernel) (by decide +kernel))
theorem ki_X5_put : Cond.instanceMethod yX5_put ∈ gtbl := (g_tb 864 (by decide +kernel) (by decide +kernel))
theorem ks_X5_put : Cond.selects yX5_put.cls yX5_put yX5_put ∈ gtbl := (g_tb 865 (by decide +kernel) (by decide +kernel))
theorem mv_L_121 : okV RL 121 yX5_put cX5_put 4 (some .int) 3 := ⟨(g_tb 863 (by decide +kernel) (by decide +kernel)), ki_X5_put, ks_X5_put, kz_X5, kc_X5_put, ⟨by decide +kernel, by decide +kernel, by decide +kernel⟩⟩
theorem kc_X5_noCell : Cond.code yX5_noCell cX5_noCell 3 (some .int) ∈ gtbl := (g_tb 870 (by decide +kernel) (by decide +kernel))
theorem ki_X5_noCell : Cond.instanceMethod yX5_noCell ∈ gtbl := (g_tb 869 (by decide +kernel) (by decide +kernel))
theorem ks_X5_noCell : Cond.selects yX5_noCell.cls yX5_noCell yX5_noCell ∈ gtbl := g_sl 40 (by decide +kernel) (by decide +kernel)
theorem mv_X5_229 : okV RX5 229 yX5_noCell cX5_noCell 3 (some .int) 2 := ⟨(g_tb 867 (by decide +kernel) (by decide +kernel)), ki_X5_noCell, ks_X5_noCell, kz_X5, kc_X5_noCell, ⟨by decide +kernel, by decide +kernel, by decide +kernel⟩⟩
theorem kc_X5_cell : Cond.code yX5_cell cX5_cell 4 (some .long) ∈ gtbl := (g_tb 874 (by decide +kernel) (by decide +kernel))
theorem ki_X5_cell : Cond.instanceMethod yX5_cell ∈ gtbl := (g_tb 872 (by decide +kernel) (by decide +kernel))
theorem ks_X5_cell : Cond.selects yX5_cell.cls yX5_cell yX5_cell ∈ gtbl := (g_tb 873 (by decide +kernel) (by decide +kernel))
theorem mv_L_125 : okV RL 125 yX5_cell cX5_cell 4 (some .long) 3 := ⟨(g_tb 871 (by decide +kernel) (by decide +kernel)), ki_X5_cell, ks_X5_cell, kz_X5, kc_X5_cell, ⟨by decide +kernel, by decide +kernel, by decide +kernel⟩⟩
theorem kc_X5_failedLong : Cond.code yX5_failedLong cX5_failedLong 2 (some .long) ∈ gtbl := (g_tb 878 (by decide +kernel) (by decide +kernel))
theorem ki_X5_failedLong : Cond.instanceMethod yX5_failedLong ∈ gtbl := (g_tb 877 (by decide +kernel) (by decide +kernel))
theorem ks_X5_failedLong : Cond.selects yX5_failedLong.cls yX5_failedLong yX5_failedLong ∈ gtbl := g_sl 41 (by decide +kernel) (by decide +kernel)
theorem mv_X5_232 : okV RX5 232 yX5_failedLong cX5_failedLong 2 (some .long) 1 := ⟨(g_tb 875 (by decide +kernel) (by decide +kernel)), ki_X5_failedLong, ks_X5_failedLong, kz_X5, kc_X5_failedLong, ⟨by decide +kernel, by decide +kernel, by decide +kernel⟩⟩
theorem kc_X5_copy : Cond.code yX5_copy cX5_copy 7 (some .int) ∈ gtbl := (g_tb 882 (by decide +kernel) (by decide +kernel))
theorem ki_X5_copy : Cond.instanceMethod yX5_copy ∈ gtbl := (g_tb 880 (by decide +kernel) (by decide +kernel))
theorem ks_X5_copy : Cond.selects yX5_copy.cls yX5_copy yX5_copy ∈ gtbl := (g_tb 881 (by decide +kernel) (by decide +kernel))
theorem mv_L_130 : okV RL 130 yX5_copy cX5_copy 7 (some .int) 5 := ⟨(g_tb 879 (by decide +kernel) (by decide +kernel)), ki_X5_copy, ks_X5_copy, kz_X5, kc_X5_copy, ⟨by decide +kernel, by decide +kernel, by decide +kernel⟩⟩
theorem kc_X5_tell : Cond.code yX5_tell cX5_tell 4 (some .int) ∈ gtbl := (g_tb 886 (by decide +kernel) (by decide +kernel))
theorem ki_X5_tell : Cond.instanceMethod yX5_tell ∈ gtbl := (g_tb 884 (by decide +kernel) (by decide +kernel))
theorem ks_X5_tell : Cond.selects yX5_tell.cls yX5_tell yX5_tell ∈ gtbl := (g_tb 885 (by decide +kernel) (by decide +kernel))
theorem mv_L_134 : okV RL 134 yX5_tell cX5_tell 4 (some .int) 1 := ⟨(g_tb 883 (by decide +kernel) (by decide +kernel)), ki_X5_tell, ks_X5_tell, kz_X5, kc_X5_tell, ⟨by decide +kernel, by decide +kernel, by decide +kernel⟩⟩
theorem kc_X5_traced : Cond.code yX5_traced cX5_traced 2 none ∈ gtbl := (g_tb 890 (by decide +kernel) (by decide +kernel))
theorem ki_X5_traced : Cond.instanceMethod yX5_traced ∈ gtbl := (g_tb 889 (by decide +kernel) (by decide +kernel))
theorem ks_X5_traced : Cond.selects yX5_traced.cls yX5_traced yX5_traced ∈ gtbl := g_sl 42 (by decide +kernel) (by decide +kernel)
theorem mv_X5_238 : okV RX5 238 yX5_traced cX5_traced 2 none 1 := ⟨(g_tb 887 (by decide +kernel) (by decide +kernel)), ki_X5_traced, ks_X5_traced, kz_X5, kc_X5_traced, ⟨by decide +kernel, by decide +kernel, by decide +kernel⟩⟩
theorem kc_X5_hush : Cond.code yX5_hush cX5_hush 2 (some .int) ∈ gtbl := (g_tb 894 (by decide +kernel) (by decide +kernel))
theorem ki_X5_hush : Cond.instanceMethod yX5_hush ∈ gtbl := (g_tb 892 (by decide +kernel) (by decide +kernel))
theorem ks_X5_hush : Cond.selects yX5_hush.cls yX5_hush yX5_hush ∈ gtbl := (g_tb 893 (by decide +kernel) (by decide +kernel))
theorem mv_L_138 : okV RL 138 yX5_hush cX5_hush 2 (some .int) 1 := ⟨(g_tb 891 (by decide +kernel) (by decide +kernel)), ki_X5_hush, ks_X5_hush, kz_X5, kc_X5_hush, ⟨by decide +kernel, by decide +kernel, by decide +kernel⟩⟩
theorem kc_X5_as : Cond.code yX5_as cX5_as 3 (some .int) ∈ gtbl := (g_tb 898 (by decide +kernel) (by decide +kernel))
theorem ki_X5_as : Cond.instanceMethod yX5_as ∈ gtbl := (g_tb 896 (by decide +kernel) (by decide +kernel))
theorem ks_X5_as : Cond.selects yX5_as.cls yX5_as yX5_as ∈ gtbl := (g_tb 897 (by decide +kernel) (by decide +kernel))
theorem mv_L_142 : okV RL 142 yX5_as cX5_as 3 (some .int) 2 := ⟨(g_tb 895 (by decide +kernel) (by decide +kernel)), ki_X5_as, ks_X5_as, kz_X5, kc_X5_as, ⟨by decide +kernel, by decide +kernel, by decide +kernel⟩⟩
theorem kc_X5_trace : Cond.code yX5_trace cX5_trace 1 (some .int) ∈ gtbl := (g_tb 902 (by decide +kernel) (by decide +kernel))
theorem ki_X5_trace : Cond.instanceMethod yX5_trace ∈ gtbl := (g_tb 900 (by decide +kernel) (by decide +kernel))
theorem ks_X5_trace : Cond.selects yX5_trace.cls yX5_trace yX5_trace ∈ gtbl := (g_tb 901 (by decide +kernel) (by decide +kernel))
theorem mv_L_146 : okV RL 146 yX5_trace cX5_trace 1 (some .int) 0 := ⟨(g_tb 899 (by decide +kernel) (by decide +kernel)), ki_X5_trace, ks_X5_trace, kz_X5, kc_X5_trace, ⟨by decide +kernel, by decide +kernel, by decide +kernel⟩⟩
theorem kc_X5_fault : Cond.code yX5_fault cX5_fault 1 (some .int) ∈ gtbl := (g_tb 906 (by decide +kernel) (by decide +kernel))
theorem ki_X5_fault : Cond.instanceMethod yX5_fault ∈ gtbl := (g_tb 904 (by decide +kernel) (by decide +kernel))
theorem ks_X5_fault : Cond.selects yX5_fault.cls yX5_fault yX5_fault ∈ gtbl := (g_tb 905 (by decide +kernel) (by decide +kernel))
theorem mv_L_150 : okV RL 150 yX5_fault cX5_fault 1 (some .int) 0 := ⟨(g_tb 903 (by decide +kernel) (by decide +kernel)), ki_X5_fault, ks_X5_fault, kz_X5, kc_X5_fault, ⟨by decide +kernel, by decide +kernel, by decide +kernel⟩⟩
theorem kc_X5_many : Cond.code yX5_many cX5_many 2 (some .int) ∈ gtbl := (g_tb 910 (by decide +kernel) (by decide +kernel))
theorem ki_X5_many : Cond.instanceMethod yX5_many ∈ gtbl := (g_tb 908 (by decide +kernel) (by decide +kernel))
theorem ks_X5_many : Cond.selects yX5_many.cls yX5_many yX5_many ∈ gtbl := (g_tb 909 (by decide +kernel) (by decide +kernel))
theorem mv_L_154 : okV RL 154 yX5_many cX5_many 2 (some .int) 1 := ⟨(g_tb 907 (by decide +kernel) (by decide +kernel)), ki_X5_many, ks_X5_many, kz_X5, kc_X5_many, ⟨by decide +kernel, by decide +kernel, by decide +kernel⟩⟩
theorem kk_X4_136 : Cond.constantLong RX4 136 (-9223372036854775808) ∈ gtbl := (g_tb 336 (by decide +kernel) (by decide +kernel))
theorem kk_X4_141 : Cond.constantLong RX4 141 (10) ∈ gtbl := (g_tb 341 (by decide +kernel) (by decide +kernel))
theorem kk_X3_25 : Cond.constantLong RX3 25 (100000000) ∈ gtbl := (g_tb 373 (by decide +kernel) (by decide +kernel))
theorem kk_X3_34 : Cond.constantLong RX3 34 (10) ∈ gtbl := (g_tb 378 (by decide +kernel) (by decide +kernel))
theorem kk_X3_40 : Cond.constantLong RX3 40 (2) ∈ gtbl := (g_tb 380 (by decide +kernel) (by decide +kernel))
theorem kk_X4_159 : Cond.constantLong RX4 159 (100000000) ∈ gtbl := (g_tb 382 (by decide +kernel) (by decide +kernel))
theorem kk_X4_177 : Cond.constantLong RX4 177 (9223372036854775807) ∈ gtbl := (g_tb 391 (by decide +kernel) (by decide +kernel))
theorem kk_X4_254 : Cond.constant RX4 254 (2147483647) ∈ gtbl := (g_tb 408 (by decide +kernel) (by decide +kernel))
theorem kk_X4_191 : Cond.constant RX4 191 (99999) ∈ gtbl := (g_tb 433 (by decide +kernel) (by decide +kernel))
theorem kk_X5_227 : Cond.constantLong RX5 227 (3) ∈ gtbl := (g_tb 657 (by decide +kernel) (by decide +kernel))
theorem kk_X5_98 : Cond.constantLong RX5 98 (2) ∈ gtbl := (g_tb 665 (by decide +kernel) (by decide +kernel))
theorem kk_X5_107 : Cond.constantLong RX5 107 (9) ∈ gtbl := (g_tb 689 (by decide +kernel) (by decide +kernel))
theorem kk_X5_182 : Cond.constantLong RX5 182 (7) ∈ gtbl := (g_tb 737 (by decide +kernel) (by decide +kernel))
theorem kk_X5_77 : Cond.constantLong RX5 77 (-9223372036854775808) ∈ gtbl := (g_tb 772 (by decide +kernel) (by decide +kernel))
theorem kk_X5_79 : Cond.constantLong RX5 79 (10) ∈ gtbl := (g_tb 773 (by decide +kernel) (by decide +kernel))
theorem kk_X5_204 : Cond.constantLong RX5 204 (8) ∈ gtbl := (g_tb 788 (by decide +kernel) (by decide +kernel))
theorem kk_X5_219 : Cond.constantLong RX5 219 (-1) ∈ gtbl := (g_tb 817 (by decide +kernel) (by decide +kernel))
theorem kk_X5_221 : Cond.constantLong RX5 221 (99999) ∈ gtbl := (g_tb 826 (by decide +kernel) (by decide +kernel))
