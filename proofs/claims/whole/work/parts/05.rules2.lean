section RS
variable {Out : Type} {X : CX} {Qf : Out → State → Prop} {own : String} {cc : ByteArray} {nL k n : Nat} {ret : Option FieldType} {rm : Room} {tys : List (ClassId × FieldType)} {F F1 F2 : Option Out} {ws ws' : va_W} {lv lv' : List (Nat × Value)} {pc tgt : Nat} {st : List Value}
/-! fields -/
theorem r_get (C : Cx X own cc nL ret rm tys) {Cn : String} {T : u_T} {N ci idx : Nat} (hin : ∀ w ∈ u_ws Cn T N, w ∈ gtbl) (j : Nat) (hj : j < N) (hc : vwCl[ci]? = some (Cn, T, N)) (hl : Cond.fieldLink own idx (T j).1 (T j).2.1 (T j).2.2.1 ∈ gtbl) (q0 : Nat) {a : Nat} {fs : List Value} {v : Value} (he : ws[q0]? = some (a, .inr (ci, fs))) (hv : fs[j]? = some v) (hd : decode cc pc = .ok (.getfield idx, 3)) (K : JR X Qf nL k n F ws lv (pc + 3) (v :: st)) : JR X Qf nL k n F ws lv pc (.ref a :: st) :=
  fun o h H locs ls hP hD hS hl2 => va_get C.1 C.2.1 C.2.2.2.2.1 hin C.ow C.hK hP q0 he hc j hj (C.hts hl) (fun _ h => h) hv hd (K o h H locs ls hP hD hS hl2)
theorem r_getN (C : Cx X own cc nL ret rm tys) {Cn host : String} {T : u_T} {N ci idx : Nat} (hin : ∀ w ∈ u_ws Cn T N, w ∈ gtbl) (j : Nat) (hj : j < N) (hc : vwCl[ci]? = some (Cn, T, N)) (hl : (own, idx, (T j).1, (T j).2.1, (T j).2.2.1, host) ∈ nestF) (q0 : Nat) {a : Nat} {fs : List Value} {v : Value} (he : ws[q0]? = some (a, .inr (ci, fs))) (hv : fs[j]? = some v) (hd : decode cc pc = .ok (.getfield idx, 3)) (K : JR X Qf nL k n F ws lv (pc + 3) (v :: st)) : JR X Qf nL k n F ws lv pc (.ref a :: st) :=
  fun o h H locs ls hP hD hS hl2 => va_getN C.1 C.2.1 C.2.2.2.2.1 hin C.ow C.hK hP q0 he hc j hj (va_Nw.use rfl (C.hN.1 _ hl)) (fun _ h => h) hv hd (K o h H locs ls hP hD hS hl2)
theorem r_put (C : Cx X own cc nL ret rm tys) {Cn : String} {T : u_T} {N ci idx : Nat} (hin : ∀ w ∈ u_ws Cn T N, w ∈ gtbl) (ty0 : Nat → FieldType) (hty : ∀ k, k < N → parseFieldDescriptor (T k).2.2.1 = some (ty0 k)) (hnm : ∀ a, a < N → ∀ b, b < N → a ≠ b → (T a).2.1 ≠ (T b).2.1) (j : Nat) (hj : j < N) (hfin : (T j).2.2.2 = false) {ty : FieldType} (hpd : parseFieldDescriptor (T j).2.2.1 = some ty) (hc : vwCl[ci]? = some (Cn, T, N)) (hl : Cond.fieldLink own idx (T j).1 (T j).2.1 (T j).2.2.1 ∈ gtbl) (q0 : Nat) {a : Nat} {fs : List Value} {v : Value} (he : ws[q0]? = some (a, .inr (ci, fs))) (hn : narrow ty v = v) (hf : fits ty v = true) (hlen : j < fs.length) (hd : decode cc pc = .ok (.putfield idx, 3)) (hw : ws.set q0 (a, .inr (ci, fs.set j v)) = ws') (K : JR X Qf nL k n F ws' lv (pc + 3) st) : JR X Qf nL k n F ws lv pc (v :: .ref a :: st) :=
  fun o h H locs ls hP hD hS hl2 => va_put C.1 C.2.1 C.2.2.2.2.1 hin ty0 hty hnm C.ow C.hK hP hD hS q0 he hc j hj (C.hts hl) (fun _ h => h) hfin hpd hn hf hlen hd (fun H1 locs1 hP1 hD1 hS1 => K o h H1 locs1 ls (hw ▸ hP1) (hw ▸ hD1) hS1 hl2)
theorem r_putN (C : Cx X own cc nL ret rm tys) {Cn host : String} {T : u_T} {N ci idx : Nat} (hin : ∀ w ∈ u_ws Cn T N, w ∈ gtbl) (ty0 : Nat → FieldType) (hty : ∀ k, k < N → parseFieldDescriptor (T k).2.2.1 = some (ty0 k)) (hnm : ∀ a, a < N → ∀ b, b < N → a ≠ b → (T a).2.1 ≠ (T b).2.1) (j : Nat) (hj : j < N) (hfin : (T j).2.2.2 = false) {ty : FieldType} (hpd : parseFieldDescriptor (T j).2.2.1 = some ty) (hc : vwCl[ci]? = some (Cn, T, N)) (hl : (own, idx, (T j).1, (T j).2.1, (T j).2.2.1, host) ∈ nestF) (q0 : Nat) {a : Nat} {fs : List Value} {v : Value} (he : ws[q0]? = some (a, .inr (ci, fs))) (hn : narrow ty v = v) (hf : fits ty v = true) (hlen : j < fs.length) (hd : decode cc pc = .ok (.putfield idx, 3)) (hw : ws.set q0 (a, .inr (ci, fs.set j v)) = ws') (K : JR X Qf nL k n F ws' lv (pc + 3) st) : JR X Qf nL k n F ws lv pc (v :: .ref a :: st) :=
  fun o h H locs ls hP hD hS hl2 => va_putN C.1 C.2.1 C.2.2.2.2.1 hin ty0 hty hnm C.ow C.hK hP hD hS q0 he hc j hj (va_Nw.use rfl (C.hN.1 _ hl)) (fun _ h => h) hfin hpd hn hf hlen hd (fun H1 locs1 hP1 hD1 hS1 => K o h H1 locs1 ls (hw ▸ hP1) (hw ▸ hD1) hS1 hl2)
/-! arrays of ints, of references -/
def tyz (cI cS : ClassId) : List (ClassId × FieldType) := [(cI, .int), (cS, .object "QuietDuty$Sheet")]
theorem r_iald {cI cS : ClassId} (C : Cx X own cc nL ret rm (tyz cI cS)) (q0 : Nat) {a N : Nat} {f : Nat → Int32} {i : Int32} (ha : ws[q0]? = some (a, .inl (cI, N, .inl f))) (hd : decode cc pc = .ok (.iaload, 1)) (K : JR X Qf nL k n F ws lv (pc + 1) (.int (f i.toNatClampNeg) :: st)) : JR X Qf nL k n (if i < 0 ∨ N ≤ i.toNatClampNeg then none else F) ws lv pc (.int i :: .ref a :: st) :=
  fun o h H locs ls hP hD hS hl => by
  by_cases hi : i < 0 ∨ N ≤ i.toNatClampNeg
  · rw [if_pos hi] at h; cases h
  · rw [if_neg hi] at h; exact va_iald C.1 C.2.1 C.hK hP q0 0 ha rfl hi hd (K o h H locs ls hP hD hS hl)
theorem r_iast {cI cS : ClassId} (C : Cx X own cc nL ret rm (tyz cI cS)) (q0 : Nat) {a N : Nat} {f : Nat → Int32} {i x : Int32} (ha : ws[q0]? = some (a, .inl (cI, N, .inl f))) (hd : decode cc pc = .ok (.iastore, 1)) (hw : ws.set q0 (a, .inl (cI, N, .inl (upd f i.toNatClampNeg x))) = ws') (K : JR X Qf nL k n F ws' lv (pc + 1) st) : JR X Qf nL k n (if i < 0 ∨ N ≤ i.toNatClampNeg then none else F) ws lv pc (.int x :: .int i :: .ref a :: st) :=
  fun o h H locs ls hP hD hS hl => by
  by_cases hi : i < 0 ∨ N ≤ i.toNatClampNeg
  · rw [if_pos hi] at h; cases h
  · rw [if_neg hi] at h; exact va_iast C.1 C.2.1 C.hK hP hD hS q0 0 ha rfl hi hd (fun H1 locs1 hP1 hD1 hS1 => K o h H1 locs1 ls (hw ▸ hP1) (hw ▸ hD1) hS1 hl)
theorem r_alen {cI cS : ClassId} (C : Cx X own cc nL ret rm (tyz cI cS)) (q0 : Nat) {a N : Nat} {f : Nat → Int32} (ha : ws[q0]? = some (a, .inl (cI, N, .inl f))) (hd : decode cc pc = .ok (.arraylength, 1)) (K : JR X Qf nL k n F ws lv (pc + 1) (.int (Int32.ofNat N) :: st)) : JR X Qf nL k n F ws lv pc (.ref a :: st) :=
  fun o h H locs ls hP hD hS hl => va_alen C.1 C.2.1 C.hK hP q0 0 ha rfl rfl hd (K o h H locs ls hP hD hS hl)
theorem r_aald {cI cS : ClassId} (C : Cx X own cc nL ret rm (tyz cI cS)) (q0 : Nat) {a N : Nat} {f : Nat → Option Nat} {i : Int32} (ha : ws[q0]? = some (a, .inl (cS, N, .inr (.inr (.inr (.inr f)))))) (hd : decode cc pc = .ok (.aaload, 1)) (K : i.toNatClampNeg < N → JR X Qf nL k n F ws lv (pc + 1) (va_rf (f i.toNatClampNeg) :: st)) : JR X Qf nL k n (if i < 0 ∨ N ≤ i.toNatClampNeg then none else F) ws lv pc (.int i :: .ref a :: st) :=
  fun o h H locs ls hP hD hS hl => by
  by_cases hi : i < 0 ∨ N ≤ i.toNatClampNeg
  · rw [if_pos hi] at h; cases h
  · rw [if_neg hi] at h; exact va_aldq C.1 C.2.1 C.hK hP q0 1 ha rfl hi hd (K (Nat.lt_of_not_le (fun h => hi (Or.inr h))) o h H locs ls hP hD hS hl)
/-! Math.max -/
def okMax (own : String) (idx : Nat) : Prop := Cond.methodLink own idx Lib.Math.max.name ∈ gtbl ∧ Cond.static Lib.Math.max.name ∈ gtbl ∧ Cond.initialized "java/lang/Math" ∈ gtbl ∧ Cond.code Lib.Math.max.name Lib.Math.max.code 2 (some .int) ∈ gtbl
theorem r_max (C : Cx X own cc nL ret rm tys) {idx : Nat} (hw : okMax own idx) (hfr : 1 ≤ rm.frames) (hlo : (st.map fun v => v.category).sum + 13 ≤ rm.locals) (hkn : k ≤ rm.cells ∧ n ≤ rm.slots) {x y : Int32} (hd : decode cc pc = .ok (.invokestatic idx, 3)) (K : JR X Qf nL k n F ws lv (pc + 3) (.int (if x < y then y else x) :: st)) : JR X Qf nL k n F ws lv pc (.int y :: .int x :: st) :=
  fun o h H locs ls hP hD hS hl => va_mmax C.1 C.2.1 (C.2.2.1.trans hl.1.symm) C.ow (C.hts hw.1) (C.hts hw.2.1) (C.hts hw.2.2.1) (C.hts hw.2.2.2) (by rw [C.room]; exact hfr) (by rw [C.room]; exact hlo) (by rw [C.room]; exact hkn.1) (by rw [C.room]; exact hkn.2) hd (K o h H locs ls hP hD hS hl)
/-! ends -/
section ENDS
variable {vv : Out → Option Value} {wd : Out → va_W} {o : Out}
theorem r_iret (C : Cx X own cc nL (some .int) rm tys) {v : Int32} (hv : vv o = some (.int v)) (hw : wd o = ws) (hd : decode cc pc = .ok (.ireturn, 1)) : JR X (QF X tys k n vv wd) nL k n (some o) ws lv pc [.int v] := by
  intro out h H locs ls hP hD hS hl
  cases h
  exact W.iret C.1 C.2.1 C.rt (fun t ht hW => ⟨by rw [hv], ⟨by rw [ht, hw]; exact hP, va_K.moved hW.alike C.hK, by rw [hw]; exact hD⟩, hS.F ht⟩) hS.2.2 hd C.lk
theorem r_zret (C : Cx X own cc nL (some .boolean) rm tys) {v : Int32} (hn : narrow .boolean (.int v) = .int v) (hv : vv o = some (.int v)) (hw : wd o = ws) (hd : decode cc pc = .ok (.ireturn, 1)) : JR X (QF X tys k n vv wd) nL k n (some o) ws lv pc [.int v] := by
  intro out h H locs ls hP hD hS hl
  cases h
  exact W.zret C.1 C.2.1 C.rt hn (fun t ht hW => ⟨by rw [hv], ⟨by rw [ht, hw]; exact hP, va_K.moved hW.alike C.hK, by rw [hw]; exact hD⟩, hS.F ht⟩) hS.2.2 hd C.lk
theorem r_zretG (C : Cx X own cc nL (some .boolean) rm tys) {v : Int32} (hv : vv o = some (.int v)) (hw : wd o = ws) (hd : decode cc pc = .ok (.ireturn, 1)) : JR X (QF X tys k n vv wd) nL k n (if v = 0 ∨ v = 1 then some o else none) ws lv pc [.int v] := by
  by_cases h : v = 0 ∨ v = 1
  · rw [if_pos h]
    refine r_zret C ?_ hv hw hd
    rcases h with rfl | rfl <;> rfl
  · rw [if_neg h]; exact r_none
theorem r_lret (C : Cx X own cc nL (some .long) rm tys) {v : Int64} (hv : vv o = some (.long v)) (hw : wd o = ws) (hd : decode cc pc = .ok (.lreturn, 1)) : JR X (QF X tys k n vv wd) nL k n (some o) ws lv pc [.long v] := by
  intro out h H locs ls hP hD hS hl
  cases h
  exact W.lret C.1 C.2.1 C.rt (fun t ht hW => ⟨by rw [hv], ⟨by rw [ht, hw]; exact hP, va_K.moved hW.alike C.hK, by rw [hw]; exact hD⟩, hS.F ht⟩) hS.2.2 hd C.lk
theorem r_vret (C : Cx X own cc nL none rm tys) (hv : vv o = none) (hw : wd o = ws) (hd : decode cc pc = .ok (.return_, 1)) : JR X (QF X tys k n vv wd) nL k n (some o) ws lv pc [] := by
  intro out h H locs ls hP hD hS hl
  cases h
  exact W.vret C.1 C.2.1 C.rt (fun t ht hW => ⟨by rw [hv], ⟨by rw [ht, hw]; exact hP, va_K.moved hW.alike C.hK, by rw [hw]; exact hD⟩, hS.F ht⟩) hS.2.2 hd C.lk
end ENDS
/-! calls -/
def okD (y : MethodName) (nA : Nat) : Prop := y.cls ≠ "java/lang/invoke/MethodHandle" ∧ y.cls ≠ "java/lang/invoke/VarHandle" ∧ (parseMethodDescriptor y.desc).map (fun d => d.parameters.length) = some nA
def okV (own : String) (idx : Nat) (y : MethodName) (bytes : ByteArray) (maxL : Nat) (rt : Option FieldType) (nA : Nat) : Prop := Cond.methodLink own idx y ∈ gtbl ∧ Cond.instanceMethod y ∈ gtbl ∧ Cond.selects y.cls y y ∈ gtbl ∧ Cond.initialized y.cls ∈ gtbl ∧ Cond.code y bytes maxL rt ∈ gtbl ∧ okD y nA
def okS (own : String) (idx : Nat) (y : MethodName) (bytes : ByteArray) (maxL : Nat) (rt : Option FieldType) (nA : Nat) : Prop := Cond.methodLink own idx y ∈ gtbl ∧ Cond.static y ∈ gtbl ∧ Cond.initialized y.cls ∈ gtbl ∧ Cond.code y bytes maxL rt ∈ gtbl ∧ okD y nA
theorem g_all {y : MethodName} {bytes : ByteArray} {maxL : Nat} {rt : Option FieldType} (h : Cond.code y bytes maxL rt ∈ gtbl) : GoodIn gtbl (.code y bytes maxL rt :: gtbl) := fun w hw => by
  rcases List.mem_cons.mp hw with rfl | hw
  · exact ⟨h, g_good h⟩
  · exact ⟨hw, g_good hw⟩
theorem blind {As : List Value} {D : va_G} {wc : va_W} {sz : Nat} : FrameBlind (va_Pc As (Pr D tys wc sz)) := fun a U g mk q => by
  obtain ⟨q0, q1, qP, qK, qD, qN⟩ := q
  exact ⟨q0, q1, qP, va_K.moved (u := U) (U := U.calling g mk a) (Vm.Alike.refl U.vm) qK, qD, NNf.same (s := U) rfl qN⟩
theorem r_free (C : Cx X own cc nL ret rm tys) {H : Heap} {locs : List Loc} {wc : va_W} (hS : va_S (xA X) (xs X).heap H locs) (hc : ∀ (j : Nat) (q : Nat × va_E), wc[j]? = some q → (xA X) q.1) : ∀ q, va_A wc H.size q → (xA X) q := by
  rintro q (⟨j, e, hj⟩ | hq)
  · exact hc j _ hj
  · exact C.hA q (Nat.le_trans hS.1 hq)
theorem r_S {A A1 : Nat → Prop} {H0 H : Heap} {locs L : List Loc} {st₀ t : State} {T' : Heap} (hS : va_S A H0 H locs) (h0 : st₀.heap = H) (e1 : T' = t.heap) (hF : va_F A1 st₀ t) (hsub : ∀ q, A1 q → A q) (hL : ∀ q ∈ L, A1 q.base) : va_S A H0 T' (locs ++ L) := by
  subst e1
  subst h0
  refine ⟨Nat.le_trans hS.1 hF.1, fun q h1 h2 => ?_, fun q hq => ?_⟩
  · rw [hF.2 q (Nat.lt_of_lt_of_le h1 hS.1) (fun h => h2 (hsub q h))]
    exact hS.2.1 q h1 h2
  · rcases List.mem_append.mp hq with h | h
    · exact hS.2.2 q h
    · exact hsub _ (hL q h)
section CALLS
variable {Out' : Type} {f : Option Out'} {vv : Out' → Option Value} {wd : Out' → va_W} {G : Out' → Option Out} {y : MethodName} {bytes : ByteArray} {maxL idx nA b : Nat} {rt : Option FieldType} {rm' : Room} {As rest : List Value} {wc : va_W}
def rmOk (rm' : Room) (maxL : Nat) (rm : Room) : Bool := Nat.ble (rm'.frames + 1) rm.frames && Nat.ble (8 + (maxL + 11) + rm'.locals) rm.locals && Nat.beq rm'.cells 0 && Nat.beq rm'.slots 0
theorem rmOk_spec {rm' rm : Room} {maxL : Nat} (h : rmOk rm' maxL rm = true) : (rm'.frames + 1 ≤ rm.frames ∧ 8 + (maxL + 11) + rm'.locals ≤ rm.locals) ∧ rm'.cells = 0 ∧ rm'.slots = 0 := by
  unfold rmOk at h
  simp only [Bool.and_eq_true] at h
  exact ⟨⟨Nat.le_of_ble_eq_true h.1.1.1, Nat.le_of_ble_eq_true h.1.1.2⟩, Nat.eq_of_beq_eq_true h.1.2, Nat.eq_of_beq_eq_true h.2⟩
/-- a virtual call over a part wc of the world: what comes back, as it comes -/
theorem r_runV (C : Cx X own cc nL ret rm tys) (hM : MX (xl X) (xD X) tys y bytes maxL rt rm' (.ref b :: As) wc f vv wd) (hw : okV own idx y bytes maxL rt nA)
    {ci N : Nat} {T : u_T} {fs : List Value} (hcl : vwCl[ci]? = some (y.cls, T, N)) (hrc : wc[0]? = some (b, .inr (ci, fs)))
    (hrm : rmOk rm' maxL rm = true) (hkn : k ≤ rm.cells ∧ n ≤ rm.slots) (hst : st = As.reverse ++ .ref b :: rest) (hnA : As.length = nA) (hrest : (rest.map fun v => v.category).sum ≤ 8) (hd : decode cc pc = .ok (.invokevirtual idx, 3))
    {H : Heap} {locs : List Loc} {ls : Array Slot} {o : Out'} (ho : f = some o) (hP : va_P (xD X) vwCl wc H) (hDw : va_D (fun _ => True) wc) (hl : lv_has ls nL lv) :
    va_Run (xp X) (xl X) (xe X) (xR X) (xs X) (xm X) (xa X) (xb X) (xt X) (xc X) H locs k n 0 0 (F0 (xm X) pc ls st) rest (QO (xD X) tys (va_A wc H.size) (vv o) (wd o) (Value.ref b :: As).toArray) (va_A wc H.size) := by
  obtain ⟨hroom, hz1, hz2⟩ := rmOk_spec hrm
  obtain ⟨w1, w2, w3, w4, w5, w6⟩ := hw
  refine va_runV (bytes := bytes) (maxL := maxL) (ret := rt) (n := nA) (C := y.cls) ⟨C.1, C.2.1, C.2.2.1, C.ow, C.2.2.2.2.1⟩ (hM H.size o ho) (cwV nA C.2.2.2.2.1 ?_ rfl hz1 hz2 ⟨rfl, w6⟩ (by rw [C.room]; exact hroom)) ⟨blind, va_recv C.hK hP hcl hrc, fun U hU hW => ⟨rfl, by rw [hU], by rw [hU]; exact hP, va_K.moved hW.alike C.hK, hDw, C.hN.warm hW⟩⟩ rfl hnA hl.1 hst (lv_room hrest) hd (by rw [C.room]; exact hkn)
  intro w hw
  rcases List.mem_append.mp hw with h | h
  · have : w ∈ gtbl := by
      rcases List.mem_cons.mp h with rfl | h
      · exact w1
      rcases List.mem_cons.mp h with rfl | h
      · exact w2
      rcases List.mem_cons.mp h with rfl | h
      · exact w3
      rcases List.mem_cons.mp h with rfl | h
      · exact w4
      cases h
    exact ⟨this, g_good this⟩
  · exact g_all w5 w h
theorem r_runS (C : Cx X own cc nL ret rm tys) (hM : MX (xl X) (xD X) tys y bytes maxL rt rm' As wc f vv wd) (hw : okS own idx y bytes maxL rt nA)
    (hrm : rmOk rm' maxL rm = true) (hkn : k ≤ rm.cells ∧ n ≤ rm.slots) (hst : st = As.reverse ++ rest) (hnA : As.length = nA) (hrest : (rest.map fun v => v.category).sum ≤ 8) (hd : decode cc pc = .ok (.invokestatic idx, 3))
    {H : Heap} {locs : List Loc} {ls : Array Slot} {o : Out'} (ho : f = some o) (hP : va_P (xD X) vwCl wc H) (hDw : va_D (fun _ => True) wc) (hl : lv_has ls nL lv) :
    va_Run (xp X) (xl X) (xe X) (xR X) (xs X) (xm X) (xa X) (xb X) (xt X) (xc X) H locs k n 0 0 (F0 (xm X) pc ls st) rest (QO (xD X) tys (va_A wc H.size) (vv o) (wd o) As.toArray) (va_A wc H.size) := by
  obtain ⟨hroom, hz1, hz2⟩ := rmOk_spec hrm
  obtain ⟨w1, w2, w3, w4, w5⟩ := hw
  exact va_runS (bytes := bytes) (maxL := maxL) (ret := rt) (n := nA) ⟨C.1, C.2.1, C.2.2.1, C.ow, C.2.2.2.2.1⟩ (hM H.size o ho) ⟨callB_of nA C.2.2.2.2.1 (g_all w4) rfl hz1 hz2 (C.hts w3) (C.hts w1) w5 (by rw [C.room]; exact hroom), C.hts w2⟩ ⟨blind, fun U hU hW => ⟨rfl, by rw [hU], by rw [hU]; exact hP, va_K.moved hW.alike C.hK, hDw, C.hN.warm hW⟩⟩ rfl hnA hl.1 hst (lv_room hrest) hd (by rw [C.room]; exact hkn)
/-- behind a run over the whole world -/
theorem r_back0 (C : Cx X own cc nL ret rm tys) {H : Heap} {locs : List Loc} {ls : Array Slot} {o : Out'} {out : Out} {as : Array Value} (hrun : va_Run (xp X) (xl X) (xe X) (xR X) (xs X) (xm X) (xa X) (xb X) (xt X) (xc X) H locs k n 0 0 (F0 (xm X) pc ls st) rest (QO (xD X) tys (va_A ws H.size) (vv o) (wd o) as) (va_A ws H.size)) (hG : G o = some out) (hD : va_D (xA X) ws) (hS : va_S (xA X) (xs X).heap H locs) (hl : lv_has ls nL lv)
    (K : ∀ o, JR X Qf nL k n (G o) (wd o) lv (pc + 3) ((vv o).toList ++ rest)) : W (xp X) (xl X) (xe X) (xR X) (xs X) (xm X) (xa X) (xb X) (xt X) (xc X) H locs k n (Qf out) (F0 (xm X) pc ls st) := by
  intro T hT XX
  obtain ⟨v, st₀, t, T', L, h0, X', hL, e1, e2, ⟨hv, ⟨hP1, hK1, hD1⟩, hF⟩, goes⟩ := hrun T hT XX
  cases hv
  have hfree := r_free C hS (wc := ws) (fun j q hj => hD.2 j q hj)
  obtain ⟨t2, a1, b1⟩ := K o out hG T'.heap (locs ++ L) ls (by rw [e1]; exact hP1) (hD1.weaken (fun _ _ _ h => hfree _ h)) (r_S hS h0 e1 hF hfree hL) hl T' rfl X'
  exact ⟨t2, goes t2 a1, b1⟩
/-- a call over the whole world -/
theorem r_callV0 (C : Cx X own cc nL ret rm tys) (hM : MX (xl X) (xD X) tys y bytes maxL rt rm' (.ref b :: As) ws f vv wd) (hw : okV own idx y bytes maxL rt nA)
    {ci N : Nat} {T : u_T} {fs : List Value} (hcl : vwCl[ci]? = some (y.cls, T, N)) (hrc : ws[0]? = some (b, .inr (ci, fs)))
    (hrm : rmOk rm' maxL rm = true) (hkn : k ≤ rm.cells ∧ n ≤ rm.slots) (hst : st = As.reverse ++ .ref b :: rest) (hnA : As.length = nA) (hrest : (rest.map fun v => v.category).sum ≤ 8) (hd : decode cc pc = .ok (.invokevirtual idx, 3))
    (K : ∀ o, JR X Qf nL k n (G o) (wd o) lv (pc + 3) ((vv o).toList ++ rest)) : JR X Qf nL k n (f.bind G) ws lv pc st := by
  intro out h H locs ls hP hD hS hl
  obtain ⟨o, ho, hG⟩ := Option.bind_eq_some_iff.mp h
  exact r_back0 C (r_runV C hM hw hcl hrc hrm hkn hst hnA hrest hd ho hP (hD.weaken (fun _ _ _ _ => trivial)) hl) hG hD hS hl K
theorem r_callS0 (C : Cx X own cc nL ret rm tys) (hM : MX (xl X) (xD X) tys y bytes maxL rt rm' As ws f vv wd) (hw : okS own idx y bytes maxL rt nA)
    (hrm : rmOk rm' maxL rm = true) (hkn : k ≤ rm.cells ∧ n ≤ rm.slots) (hst : st = As.reverse ++ rest) (hnA : As.length = nA) (hrest : (rest.map fun v => v.category).sum ≤ 8) (hd : decode cc pc = .ok (.invokestatic idx, 3))
    (K : ∀ o, JR X Qf nL k n (G o) (wd o) lv (pc + 3) ((vv o).toList ++ rest)) : JR X Qf nL k n (f.bind G) ws lv pc st := by
  intro out h H locs ls hP hD hS hl
  obtain ⟨o, ho, hG⟩ := Option.bind_eq_some_iff.mp h
  exact r_back0 C (r_runS C hM hw hrm hkn hst hnA hrest hd ho hP (hD.weaken (fun _ _ _ _ => trivial)) hl) hG hD hS hl K
end CALLS
end RS
