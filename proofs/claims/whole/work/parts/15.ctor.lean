theorem kcl_L_7 : Cond.classLink RL 7 "QuietDuty" ∈ gtbl := g_tb 10 (by decide +kernel) (by decide +kernel)
theorem kin_X4 : Cond.instantiable "QuietDuty" 7 ∈ gtbl := g_tb 11 (by decide +kernel) (by decide +kernel)
theorem kob_X4 : Cond.methodLink RX4 3 Lib.objectInit ∈ gtbl := g_tb 15 (by decide +kernel) (by decide +kernel)
theorem kob_i : Cond.instanceMethod Lib.objectInit ∈ gtbl := g_tb 16 (by decide +kernel) (by decide +kernel)
theorem kob_c : Cond.code Lib.objectInit ⟨#[0xb1]⟩ 1 none ∈ gtbl := g_tb 17 (by decide +kernel) (by decide +kernel)
theorem kcl_X4_11 : Cond.classLink RX4 11 "QuietDuty$Sheet" ∈ gtbl := g_tb 18 (by decide +kernel) (by decide +kernel)
theorem kAO : Cond.arrayOver (.object "QuietDuty$Sheet") ∈ lw_tbl := List.mem_append_right _ (List.mem_of_getElem? (i := 19) (by decide +kernel))
theorem kin_X1 : Cond.instantiable "QuietDuty$Sheet" 3 ∈ gtbl := g_tb 20 (by decide +kernel) (by decide +kernel)
theorem kob_X1 : Cond.methodLink RX1 3 Lib.objectInit ∈ gtbl := g_tb 24 (by decide +kernel) (by decide +kernel)
theorem kA_int : Cond.arrayClass .int ∈ gtbl := g_tb 38 (by decide +kernel) (by decide +kernel)
theorem kcl_X4_18 : Cond.classLink RX4 18 "QuietDuty$TextReader" ∈ gtbl := g_tb 39 (by decide +kernel) (by decide +kernel)
theorem kin_X2 : Cond.instantiable "QuietDuty$TextReader" 4 ∈ gtbl := g_tb 40 (by decide +kernel) (by decide +kernel)
theorem kob_X2 : Cond.methodLink RX2 3 Lib.objectInit ∈ gtbl := g_tb 44 (by decide +kernel) (by decide +kernel)
theorem kcl_X4_25 : Cond.classLink RX4 25 "QuietDuty$Way" ∈ gtbl := g_tb 58 (by decide +kernel) (by decide +kernel)
theorem kin_X3 : Cond.instantiable "QuietDuty$Way" 2 ∈ gtbl := g_tb 59 (by decide +kernel) (by decide +kernel)
theorem kob_X3 : Cond.methodLink RX3 3 Lib.objectInit ∈ gtbl := g_tb 63 (by decide +kernel) (by decide +kernel)
theorem kcl_X4_32 : Cond.classLink RX4 32 "QuietDuty$Border" ∈ gtbl := g_tb 71 (by decide +kernel) (by decide +kernel)
theorem kin_X0 : Cond.instantiable "QuietDuty$Border" 16 ∈ gtbl := g_tb 72 (by decide +kernel) (by decide +kernel)
theorem kob_X0 : Cond.methodLink RX0 3 Lib.objectInit ∈ gtbl := g_tb 76 (by decide +kernel) (by decide +kernel)
theorem kcl_L_10 : Cond.classLink RL 10 "QuietDutyModel" ∈ gtbl := g_tb 541 (by decide +kernel) (by decide +kernel)
theorem kin_X5 : Cond.instantiable "QuietDutyModel" 34 ∈ gtbl := g_tb 542 (by decide +kernel) (by decide +kernel)
theorem kob_X5 : Cond.methodLink RX5 1 Lib.objectInit ∈ gtbl := g_tb 546 (by decide +kernel) (by decide +kernel)
theorem kc_X1_init : Cond.code yX1_init cX1_init 1 none ∈ gtbl := g_tb 23 (by decide +kernel) (by decide +kernel)
theorem ki_X1_init : Cond.instanceMethod yX1_init ∈ gtbl := g_tb 22 (by decide +kernel) (by decide +kernel)
theorem kc_X2_init : Cond.code yX2_init cX2_init 1 none ∈ gtbl := g_tb 43 (by decide +kernel) (by decide +kernel)
theorem ki_X2_init : Cond.instanceMethod yX2_init ∈ gtbl := g_tb 42 (by decide +kernel) (by decide +kernel)
theorem kc_X3_init : Cond.code yX3_init cX3_init 1 none ∈ gtbl := g_tb 62 (by decide +kernel) (by decide +kernel)
theorem ki_X3_init : Cond.instanceMethod yX3_init ∈ gtbl := g_tb 61 (by decide +kernel) (by decide +kernel)
theorem kc_X0_init : Cond.code yX0_init cX0_init 1 none ∈ gtbl := g_tb 75 (by decide +kernel) (by decide +kernel)
theorem ki_X0_init : Cond.instanceMethod yX0_init ∈ gtbl := g_tb 74 (by decide +kernel) (by decide +kernel)
/-! constructors -/
def sel (l : List Nat) (j : Nat) : Nat := l.getD j 0
def QEo {U : Type} (D : va_G) (tys : List (ClassId × FieldType)) (A : Nat → Prop) (wd : U → va_W) : Array Value → State → Outcome → State → Prop := fun _ st oc t => oc = .returned none ∧ (∃ u : U, Po D tys A (wd u) t) ∧ va_F A st t
def QE {U : Type} (X : CX) (tys : List (ClassId × FieldType)) (k n : Nat) (wd : U → va_W) : Unit → State → Prop := fun _ => MQ (xb X) (QEo (xD X) tys (xA X) wd) (xa X) (xs X) k n (xA X)
abbrev AO (U : State) : Prop := va_AO "QuietDuty$Sheet" U
def PrE (D : va_G) (tys : List (ClassId × FieldType)) (ws : va_W) (sz : Nat) (U : State) : Prop := Pr D tys ws sz U ∧ AO U
/-- a constructor's contract -/
def MC {U : Type} (l : Launch) (D : va_G) (tys : List (ClassId × FieldType)) (y : MethodName) (cc : ByteArray) (nL : Nat) (rm : Room) (a : Nat) (e : va_E) (wd : U → va_W) : Prop :=
  ∀ sz : Nat, Met l y (.code y cc nL none :: gtbl) rm (va_Pc [.ref a] (PrE D tys [(a, e)] sz)) (QEo D tys (va_A [(a, e)] sz) wd) rm.cells rm.slots (va_A [(a, e)] sz)
theorem metC_of {U : Type} {l : Launch} {D : va_G} {tys : List (ClassId × FieldType)} {y : MethodName} {own : String} {cc : ByteArray} {nL : Nat} {rm : Room} {a : Nat} {e : va_E} {wd : U → va_W}
    (hy : plainName y.cls = true) (hyn : y.name = "<init>") (ho : y.cls = own) (hlen : (lg_sl [Value.ref a]).length ≤ nL) (body : ∀ X : CX, xl X = l → xD X = D → Cx X own cc nL none rm tys → AO (xs X) → (xt X).name = "<init>" → JR X (QE X tys rm.cells rm.slots wd) nL 0 0 (some ()) [(a, e)] [(0, .ref a)] 0 []) : MC l D tys y cc nL rm a e wd := by
  intro sz
  refine Met.ofW (cc := cc) (maxL := nL) (ret := none) hy rfl ?_
  intro p e s m args below meth c s₁ B hml hv
  obtain ⟨rfl, ⟨hsz, hP, hK, hD0, hN⟩, hAO⟩ := hv
  have hts := atoms_spec (ws := .code y cc nL none :: gtbl) B.pre
  have hown : s.vm.findClass y.cls = some m.cls := findClass_of_methodNamed B.named
  have hin : meth.name = "<init>" := (name_of_methodNamed B.named B.method).1.trans hyn
  subst hsz
  have hD := hD0.self (sz := s.heap.size)
  have hl := lv_entry [Value.ref a] (n := nL) hlen
  rw [lg_entry_eq]
  exact body (p, l, e, _, s, m, [Value.ref a].toArray, below, meth, c, D, va_A _ s.heap.size) rfl rfl ⟨B.exec, B.bytes, hml, ho ▸ hown, fun w h => hts w (List.mem_cons_of_mem _ h), hK, hN, B.notSynchronized, B.returns, rfl, fun q h => Or.inr h⟩ hAO hin () rfl s.heap [] _ hP hD va_S.rf hl
theorem blindE {As : List Value} {D : va_G} {tys : List (ClassId × FieldType)} {wc : va_W} {sz : Nat} : FrameBlind (va_Pc As (PrE D tys wc sz)) := fun a U g mk q => by
  obtain ⟨q0, ⟨q1, qP, qK, qD, qN⟩, qA⟩ := q
  exact ⟨q0, ⟨q1, qP, va_K.moved (u := U) (U := U.calling g mk a) (Vm.Alike.refl U.vm) qK, qD, NNf.same (s := U) rfl qN⟩, va_AO.moved (u := U) (U := U.calling g mk a) (Vm.Alike.refl U.vm) qA⟩
section CT
variable {Out : Type} {X : CX} {Qf : Out → State → Prop} {own : String} {cc : ByteArray} {nL k n : Nat} {ret : Option FieldType} {rm : Room} {tys : List (ClassId × FieldType)} {F F1 F2 : Option Out} {ws ws' : va_W} {lv lv' : List (Nat × Value)} {pc tgt : Nat} {st : List Value} {cI cS : ClassId}
theorem r_objInit (C : Cx X own cc nL ret rm tys) {idx a : Nat} (hw : Cond.methodLink own idx Lib.objectInit ∈ gtbl) (hd : decode cc pc = .ok (.invokespecial idx, 3)) (hfr : 1 ≤ rm.frames) (hlo : (st.map fun v => v.category).sum + 12 ≤ rm.locals) (K : JR X Qf nL k n F ws lv (pc + 3) st) : JR X Qf nL k n F ws lv pc (.ref a :: st) :=
  fun o h H locs ls hP hD hS hl => W.objInit C.1 C.2.1 C.ow (C.hts hw) (C.hts kob_i) (C.hts kob_c) rfl (hl.1.trans C.2.2.1.symm) rfl hd (by rw [C.room]; exact hfr) (by rw [C.room]; show 2 * 0 + _ + 12 ≤ _; omega) (K o h H locs ls hP hD hS hl)
theorem r_newI (C : Cx X own cc nL ret rm (tyz cI cS)) {N : Nat} {z : Int32} (hz : ¬ z < 0) (hN : z.toNatClampNeg = N) (hb : N * 4 ≤ 536870912) (hk : k + 1 ≤ rm.cells) (hn : n + N ≤ rm.slots) (hd : decode cc pc = .ok (.newarray .int, 2)) (K : ∀ a : Nat, JR X Qf nL (k + 1) (n + N) F (ws ++ [(a, arI cI N (fun _ => 0))]) lv (pc + 2) (.ref a :: st)) : JR X Qf nL k n F ws lv pc (.int z :: st) := by
  intro o h H locs ls hP hD hS hl
  refine va_newa (atype := .int) (ty := .int) (a0 := (N, .inl (fun _ => 0))) C.1 C.2.1 (C.hts kA_int) rfl C.hK hP hD hS C.hA (fun _ => rfl) hz hN hb (by rw [C.room]; exact hk) (by rw [C.room]; exact hn) hd (fun q cA H1 hK1 hP1 hD1 hS1 => ?_)
  have e1 : (xs X).vm.findClass ("[" ++ FieldType.int.toString) = some cA := (hK1.2 2 (cA, .int) rfl).2
  have e2 : (xs X).vm.findClass ("[" ++ FieldType.int.toString) = some cI := (C.hK.2 0 (cI, .int) rfl).2
  have e3 : cA = cI := Option.some.inj (e1.symm.trans e2)
  subst e3
  exact K q o h H1 locs ls hP1 hD1 hS1 hl
theorem r_newS (C : Cx X RX4 cc nL ret rm (tyz cI cS)) (hAO : AO (xs X)) {N : Nat} {z : Int32} (hz : ¬ z < 0) (hN : z.toNatClampNeg = N) (hb : N * 4 ≤ 536870912) (hk : k + 1 ≤ rm.cells) (hn : n + N ≤ rm.slots) (hd : decode cc pc = .ok (.anewarray 11, 3)) (K : ∀ a : Nat, JR X Qf nL (k + 1) (n + N) F (ws ++ [(a, .inl (cS, N, .inr (.inr (.inr (.inr (fun _ => none))))))]) lv (pc + 3) (.ref a :: st)) : JR X Qf nL k n F ws lv pc (.int z :: st) := by
  intro o h H locs ls hP hD hS hl
  refine va_newq C.1 C.2.1 C.ow (C.hts kcl_X4_11) hAO C.hK hP hD hS C.hA hz hN hb (by rw [C.room]; exact hk) (by rw [C.room]; exact hn) hd (fun q cA H1 hK1 hP1 hD1 hS1 => ?_)
  obtain ⟨_, _, _, _, _, e1⟩ := (hK1.2 2 (cA, .object "QuietDuty$Sheet") rfl).2
  obtain ⟨_, _, _, _, _, e2⟩ := (C.hK.2 1 (cS, .object "QuietDuty$Sheet") rfl).2
  have e3 : cA = cS := Option.some.inj (e1.symm.trans e2)
  subst e3
  exact K q o h H1 locs ls hP1 hD1 hS1 hl
theorem r_new (C : Cx X own cc nL ret rm tys) {Cn : String} {T : u_T} {N ci idx : Nat} (hin : ∀ w ∈ u_ws Cn T N, w ∈ gtbl) (ty : Nat → FieldType) (hty : ∀ k, k < N → parseFieldDescriptor (T k).2.2.1 = some (ty k)) (hcl : Cond.classLink own idx Cn ∈ gtbl) (hinst : Cond.instantiable Cn N ∈ gtbl) (hini : Cond.initialized Cn ∈ gtbl) (hc : vwCl[ci]? = some (Cn, T, N)) {fs : List Value} (hfs : ∀ j, j < N → defaultValue (ty j) = vp_V fs j) (hk : k + 1 ≤ rm.cells) (hn : n + N ≤ rm.slots) (hd : decode cc pc = .ok (.new idx, 3)) (K : ∀ a : Nat, JR X Qf nL (k + 1) (n + N) F (ws ++ [(a, .inr (ci, fs))]) lv (pc + 3) (.ref a :: st)) : JR X Qf nL k n F ws lv pc st :=
  fun o h H locs ls hP hD hS hl => va_new C.1 C.2.1 C.2.2.2.2.1 hin ty hty C.ow (C.hts hcl) (C.hts hinst) (C.hts hini) C.hK hP hD hS C.hA hc hfs (by rw [C.room]; exact hk) (by rw [C.room]; exact hn) hd (fun q H1 hP1 hD1 hS1 => K q o h H1 locs ls hP1 hD1 hS1 hl)
theorem r_putF (C : Cx X own cc nL ret rm tys) (hnm : (xt X).name = "<init>") {Cn : String} {T : u_T} {N ci idx : Nat} (hin : ∀ w ∈ u_ws Cn T N, w ∈ gtbl) (ty0 : Nat → FieldType) (hty : ∀ k, k < N → parseFieldDescriptor (T k).2.2.1 = some (ty0 k)) (hnn : ∀ a, a < N → ∀ b, b < N → a ≠ b → (T a).2.1 ≠ (T b).2.1) (j : Nat) (hj : j < N) (hfin : (T j).2.2.2 = true) (hdecl : (T j).1 = own) {ty : FieldType} (hpd : parseFieldDescriptor (T j).2.2.1 = some ty) (hc : vwCl[ci]? = some (Cn, T, N)) (hl : Cond.fieldLink own idx (T j).1 (T j).2.1 (T j).2.2.1 ∈ gtbl) (q0 : Nat) {a : Nat} {fs : List Value} {v : Value} (he : ws[q0]? = some (a, .inr (ci, fs))) (hn : narrow ty v = v) (hf : fits ty v = true) (hlen : j < fs.length) (hd : decode cc pc = .ok (.putfield idx, 3)) (hw : ws.set q0 (a, .inr (ci, fs.set j v)) = ws') (K : JR X Qf nL k n F ws' lv (pc + 3) st) : JR X Qf nL k n F ws lv pc (v :: .ref a :: st) :=
  fun o h H locs ls hP hD hS hl2 => va_putF C.1 C.2.1 C.2.2.2.2.1 hin ty0 hty hnn C.ow C.hK hP hD hS q0 he hc j hj (C.hts hl) (fun _ h => h) hfin hnm hdecl hpd hn hf hlen hd (fun H1 locs1 hP1 hD1 hS1 => K o h H1 locs1 ls (hw ▸ hP1) (hw ▸ hD1) hS1 hl2)
theorem r_ws (h : ws = ws') (K : JR X Qf nL k n F ws' lv pc st) : JR X Qf nL k n F ws lv pc st := h ▸ K
theorem r_icmp_geN (C : Cx X own cc nL ret rm tys) {x y : Int32} {off : Int} (hc : ¬ y ≤ x) (hd : decode cc pc = .ok (.if_icmp .ge off, 3)) (ht : (pc : Int) + off = (tgt : Int)) (K : JR X Qf nL k n F ws lv (pc + 3) st) : JR X Qf nL k n F ws lv pc (.int y :: .int x :: st) := fun o h H locs ls hP hD hS hl => lv_icmp_ge C.1 C.2.1 hd ht (fun c => absurd c hc) (fun _ => K o h H locs ls hP hD hS hl)
theorem r_icmp_geY (C : Cx X own cc nL ret rm tys) {x y : Int32} {off : Int} (hc : y ≤ x) (hd : decode cc pc = .ok (.if_icmp .ge off, 3)) (ht : (pc : Int) + off = (tgt : Int)) (K : JR X Qf nL k n F ws lv tgt st) : JR X Qf nL k n F ws lv pc (.int y :: .int x :: st) := fun o h H locs ls hP hD hS hl => lv_icmp_ge C.1 C.2.1 hd ht (fun _ => K o h H locs ls hP hD hS hl) (fun c => absurd hc c)
theorem r_iastK (C : Cx X own cc nL ret rm (tyz cI cS)) (q0 : Nat) {a N : Nat} {f : Nat → Int32} {i x : Int32} (hi : ¬ (i < 0 ∨ N ≤ i.toNatClampNeg)) (ha : ws[q0]? = some (a, .inl (cI, N, .inl f))) (hd : decode cc pc = .ok (.iastore, 1)) (hw : ws.set q0 (a, .inl (cI, N, .inl (upd f i.toNatClampNeg x))) = ws') (K : JR X Qf nL k n F ws' lv (pc + 1) st) : JR X Qf nL k n F ws lv pc (.int x :: .int i :: .ref a :: st) :=
  fun o h H locs ls hP hD hS hl => va_iast C.1 C.2.1 C.hK hP hD hS q0 0 ha rfl hi hd (fun H1 locs1 hP1 hD1 hS1 => K o h H1 locs1 ls (hw ▸ hP1) (hw ▸ hD1) hS1 hl)
theorem r_aastK (C : Cx X own cc nL ret rm (tyz cI cS)) (q0 qk : Nat) {a v N : Nat} {vs : List Value} {f : Nat → Option Nat} {i : Int32} (hi : ¬ (i < 0 ∨ N ≤ i.toNatClampNeg)) (ha : ws[q0]? = some (a, .inl (cS, N, .inr (.inr (.inr (.inr f)))))) (hv : ws[qk]? = some (v, .inr (1, vs))) (hd : decode cc pc = .ok (.aastore, 1)) (hw : ws.set q0 (a, .inl (cS, N, .inr (.inr (.inr (.inr (va_up f i.toNatClampNeg (some v))))))) = ws') (K : JR X Qf nL k n F ws' lv (pc + 1) st) : JR X Qf nL k n F ws lv pc (.ref v :: .int i :: .ref a :: st) :=
  fun o h H locs ls hP hD hS hl => va_astq (r := (RX1, TX1, 3)) C.1 C.2.1 C.hK hP hD hS q0 1 qk 1 ha rfl hv rfl hi hd (fun H1 locs1 hP1 hD1 hS1 => K o h H1 locs1 ls (hw ▸ hP1) (hw ▸ hD1) hS1 hl)
/-- the cells in another order -/
theorem r_perm (is : List Nat) (h : is.map (fun i => ws[i]?) = ws'.map some) (hn : va_nd is = true) (K : JR X Qf nL k n F ws' lv pc st) : JR X Qf nL k n F ws lv pc st :=
  fun o hF H locs ls hP hD hS hl => K o hF H locs ls (cut_sub h hP) (cut_Dsub h hn hD) hS hl
/-- a row of references: what it holds counts below its length alone -/
theorem r_rows (q0 : Nat) {a N : Nat} {f g : Nat → Option Nat} (ha : ws[q0]? = some (a, .inl (cS, N, .inr (.inr (.inr (.inr f)))))) (hfg : ∀ j, j < N → f j = g j) (hw : ws.set q0 (a, .inl (cS, N, .inr (.inr (.inr (.inr g))))) = ws') (K : JR X Qf nL k n F ws' lv pc st) : JR X Qf nL k n F ws lv pc st := by
  intro o hF H locs ls hP hD hS hl
  subst hw
  refine K o hF H locs ls (hP.set hD ha ?_ (fun q _ => rfl)) (hD.set ha) hS hl
  have h0 := hP q0 _ ha
  show H[a]? = some (vp_cell cS (N, .inr (.inr (.inr (.inr g)))))
  have h1 : H[a]? = some (vp_cell cS (N, .inr (.inr (.inr (.inr f))))) := h0
  rw [h1, vp_cell_q, vp_cell_q]
  congr 1
  unfold arrV
  congr 1
  apply Array.ext
  · simp
  · intro i h1 h2
    simp at h1
    simp [hfg i h1]
theorem r_widen {k' n' : Nat} (h1 : k ≤ k') (h2 : n ≤ n') (K : JR X Qf nL k' n' F ws lv pc st) : JR X Qf nL k n F ws lv pc st := fun o hF H locs ls hP hD hS hl => W.widen h1 h2 (K o hF H locs ls hP hD hS hl)
theorem r_vretE {U : Type} {wd : U → va_W} (C : Cx X own cc nL none rm tys) (u : U) (hw : wd u = ws) (hd : decode cc pc = .ok (.return_, 1)) : JR X (QE X tys k n wd) nL k n (some ()) ws lv pc [] := by
  intro out h H locs ls hP hD hS hl
  exact W.vret C.1 C.2.1 C.rt (fun t ht hW => ⟨rfl, ⟨u, by rw [ht, hw]; exact hP, va_K.moved hW.alike C.hK, by rw [hw]; exact hD⟩, hS.F ht⟩) hS.2.2 hd C.lk
section INIT
variable {U : Type} {wd : U → va_W} {y : MethodName} {bytes : ByteArray} {maxL idx a : Nat} {rm' : Room} {e : va_E} {wr : va_W} {wn : U → va_W}
theorem r_backE (C : Cx X own cc nL ret rm tys) {H : Heap} {locs : List Loc} {ls : Array Slot} {out : Out} {as : Array Value} (hw : ws = wr ++ [(a, e)]) (hw' : ∀ u, wr ++ wd u = wn u)
    (hrun : va_Run (xp X) (xl X) (xe X) (xR X) (xs X) (xm X) (xa X) (xb X) (xt X) (xc X) H locs k n rm'.cells rm'.slots (F0 (xm X) pc ls (.ref a :: st)) st (QEo (xD X) tys (va_A [(a, e)] H.size) wd as) (va_A [(a, e)] H.size)) (hF : F = some out) (hP : va_P (xD X) vwCl ws H) (hD : va_D (xA X) ws) (hS : va_S (xA X) (xs X).heap H locs) (hl : lv_has ls nL lv)
    (K : ∀ u, JR X Qf nL (k + rm'.cells) (n + rm'.slots) F (wn u) lv (pc + 3) st) : W (xp X) (xl X) (xe X) (xR X) (xs X) (xm X) (xa X) (xb X) (xt X) (xc X) H locs k n (Qf out) (F0 (xm X) pc ls (.ref a :: st)) := by
  intro T hT XX
  obtain ⟨v, st₀, t, T', L, h0, X', hL, e1, e2, ⟨hv, ⟨u, hP1, hK1, hD1⟩, hFr⟩, goes⟩ := hrun T hT XX
  cases hv
  subst hw
  have hlast : (wr ++ [(a, e)])[wr.length]? = some (a, e) := by simp
  have hfree := r_free C hS (wc := [(a, e)]) (fun j q hj => by
    rcases j with _ | j
    · simp at hj
      subst hj
      exact hD.2 wr.length (a, e) hlast
    · simp at hj)
  have hS2 := r_S (L := L) hS h0 e1 hFr hfree hL
  rw [← e1] at hP1
  have hkeep : ∀ q : Nat, q < H.size → ¬ va_A [(a, e)] H.size q → T'.heap[q]? = H[q]? := fun q h1 h2 => by rw [e1, hFr.2 q (by rw [h0]; exact h1) h2, h0]
  have hwr : ∀ (i : Nat) (q : Nat × va_E), wr[i]? = some q → (wr ++ [(a, e)])[i]? = some q := fun i q h => by
    rw [List.getElem?_append_left (List.getElem?_eq_some_iff.mp h).1]; exact h
  have hne : ∀ (i : Nat) (q : Nat × va_E), wr[i]? = some q → ¬ va_A [(a, e)] H.size q.1 := by
    intro i q h
    rintro (⟨j, e', hj⟩ | hge)
    · rcases j with _ | j
      · simp at hj
        have := hD.1 i wr.length q (a, e) (hwr i q h) hlast hj.1.symm
        have h3 := (List.getElem?_eq_some_iff.mp h).1
        omega
      · simp at hj
    · exact absurd (hP i q (hwr i q h)).lt (Nat.not_lt.mpr hge)
  have hPn : va_P (xD X) vwCl (wr ++ wd u) T'.heap := va_P.app (fun i q h => (hP i q (hwr i q h)).kept (hkeep q.1 (hP i q (hwr i q h)).lt (hne i q h))) hP1
  have hDn : va_D (xA X) (wr ++ wd u) := by
    refine va_D.app ⟨fun i j p q hi hj hpq => hD.1 i j p q (hwr i p hi) (hwr j q hj) hpq, fun i q hi => hD.2 i q (hwr i q hi)⟩ (hD1.weaken (fun _ _ _ h => hfree _ h)) (fun i j x y hx hy hxy => ?_)
    exact hne i x hx (hxy ▸ hD1.2 j y hy)
  obtain ⟨t2, a1, b1⟩ := K u out hF T'.heap (locs ++ L) ls (hw' u ▸ hPn) (hw' u ▸ hDn) hS2 hl T' rfl X'
  exact ⟨t2, goes t2 a1, b1⟩
def rmOkE (rm' : Room) (maxL : Nat) (rm : Room) : Bool := Nat.ble (rm'.frames + 1) rm.frames && Nat.ble (8 + (maxL + 11) + rm'.locals) rm.locals
theorem rmOkE_spec {rm' rm : Room} {maxL : Nat} (h : rmOkE rm' maxL rm = true) : rm'.frames + 1 ≤ rm.frames ∧ 8 + (maxL + 11) + rm'.locals ≤ rm.locals := by
  unfold rmOkE at h
  simp only [Bool.and_eq_true] at h
  exact ⟨Nat.le_of_ble_eq_true h.1, Nat.le_of_ble_eq_true h.2⟩
theorem r_initN (C : Cx X own cc nL ret rm tys) (hAO : AO (xs X)) (hM : MC (xl X) (xD X) tys y bytes maxL rm' a e wd) {host : String} (h1 : (own, idx, y, host) ∈ nestM) (h2 : Cond.code y bytes maxL none ∈ gtbl) (h3 : Cond.initialized y.cls ∈ gtbl) (h4 : Cond.instanceMethod y ∈ gtbl) (h5 : y.name = "<init>") (h6 : okD y 0)
    (hw : ws = wr ++ [(a, e)]) (hw' : ∀ u, wr ++ wd u = wn u) (hrm : rmOkE rm' maxL rm = true) (hkn : k + rm'.cells ≤ rm.cells ∧ n + rm'.slots ≤ rm.slots) (hrest : (st.map fun v => v.category).sum ≤ 8) (hd : decode cc pc = .ok (.invokespecial idx, 3))
    (K : ∀ u, JR X Qf nL (k + rm'.cells) (n + rm'.slots) F (wn u) lv (pc + 3) st) : JR X Qf nL k n F ws lv pc (.ref a :: st) := by
  intro out h H locs ls hP hD hS hl
  have hpc : va_P (xD X) vwCl [(a, e)] H := fun j q hj => by
    rcases j with _ | j
    · simp at hj; subst hj; exact hP wr.length (a, e) (by rw [hw]; simp)
    · simp at hj
  refine r_backE C hw hw' (va_runIN (As := []) (rest := st) (b := a) (n := 0) (bytes := bytes) (maxL := maxL) (host := host) ⟨C.1, C.2.1, C.2.2.1, C.ow, C.2.2.2.2.1⟩ (hM H.size) ⟨va_cnB 0 C.2.2.2.2.1 (g_all h2) rfl rfl rfl (C.hN.2 _ h1) (C.hts h3) h6 (by rw [C.room]; exact rmOkE_spec hrm), h5, C.hts h4⟩ ⟨blindE, fun U hU hW => ⟨rfl, ⟨by rw [hU], by rw [hU]; exact hpc, va_K.moved hW.alike C.hK, ⟨fun i j p q hi hj _ => ?_, fun _ _ _ => trivial⟩, C.hN.warm hW⟩, va_AO.moved hW.alike hAO⟩⟩ rfl rfl hl.1 rfl (lv_room hrest) hd (by rw [C.room]; exact hkn)) h hP hD hS hl K
  rcases i with _ | i <;> rcases j with _ | j <;> simp_all
theorem r_init (C : Cx X own cc nL ret rm tys) (hAO : AO (xs X)) (hM : MC (xl X) (xD X) tys y bytes maxL rm' a e wd) (h1 : Cond.methodLink own idx y ∈ gtbl) (h2 : Cond.code y bytes maxL none ∈ gtbl) (h3 : Cond.initialized y.cls ∈ gtbl) (h4 : Cond.instanceMethod y ∈ gtbl) (h5 : y.name = "<init>") (h6 : okD y 0)
    (hw : ws = wr ++ [(a, e)]) (hw' : ∀ u, wr ++ wd u = wn u) (hrm : rmOkE rm' maxL rm = true) (hkn : k + rm'.cells ≤ rm.cells ∧ n + rm'.slots ≤ rm.slots) (hrest : (st.map fun v => v.category).sum ≤ 8) (hd : decode cc pc = .ok (.invokespecial idx, 3))
    (K : ∀ u, JR X Qf nL (k + rm'.cells) (n + rm'.slots) F (wn u) lv (pc + 3) st) : JR X Qf nL k n F ws lv pc (.ref a :: st) := by
  intro out h H locs ls hP hD hS hl
  have hpc : va_P (xD X) vwCl [(a, e)] H := fun j q hj => by
    rcases j with _ | j
    · simp at hj; subst hj; exact hP wr.length (a, e) (by rw [hw]; simp)
    · simp at hj
  refine r_backE C hw hw' (va_runI (As := []) (rest := st) (b := a) (n := 0) (bytes := bytes) (maxL := maxL) ⟨C.1, C.2.1, C.2.2.1, C.ow, C.2.2.2.2.1⟩ (hM H.size) (cwI 0 C.2.2.2.2.1 (g_all h2) rfl rfl rfl (C.hts h3) (C.hts h1) (C.hts h4) h5 h6 (by rw [C.room]; exact rmOkE_spec hrm)) ⟨blindE, fun U hU hW => ⟨rfl, ⟨by rw [hU], by rw [hU]; exact hpc, va_K.moved hW.alike C.hK, ⟨fun i j p q hi hj _ => ?_, fun _ _ _ => trivial⟩, C.hN.warm hW⟩, va_AO.moved hW.alike hAO⟩⟩ rfl rfl hl.1 rfl (lv_room hrest) hd (by rw [C.room]; exact hkn)) h hP hD hS hl K
  rcases i with _ | i <;> rcases j with _ | j <;> simp_all
end INIT
end CT
