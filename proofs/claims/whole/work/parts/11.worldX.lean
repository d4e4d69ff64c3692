section WX
variable {cI cS : ClassId} {q qb qs qS qC : Nat → Nat} {pb ps : Nat} {tr fa : Int32} {fr : Option Nat} {rb rl ra wl : Int32} {WS BI : Nat → Int32} {BA : Nat → Nat → Int32} {SI : Nat → Int32} {SA : Nat → Nat → Int32} {LN SZ : Nat → Int32} {CE : Nat → Nat → Int32} {j : Nat}
theorem wX_o (hj : j < 4) : (wdX cI cS q qb qs qS qC pb ps tr fa fr rb rl ra wl WS BI BA SI SA LN SZ CE)[25 + 2 * j]? = some (qS j, .inr (1, [.ref (qC j), .int (LN j), .int (SZ j)])) :=
  match j, hj with
  | 0, _ => rfl
  | 1, _ => rfl
  | 2, _ => rfl
  | 3, _ => rfl
theorem wX_a (hj : j < 4) : (wdX cI cS q qb qs qS qC pb ps tr fa fr rb rl ra wl WS BI BA SI SA LN SZ CE)[26 + 2 * j]? = some (qC j, .inl (cI, 60, .inl (CE j))) :=
  match j, hj with
  | 0, _ => rfl
  | 1, _ => rfl
  | 2, _ => rfl
  | 3, _ => rfl
theorem wX_s (hj : j < 4) {f : Nat → Int32} : (wdX cI cS q qb qs qS qC pb ps tr fa fr rb rl ra wl WS BI BA SI SA LN SZ CE).set (26 + 2 * j) (qC j, .inl (cI, 60, .inl f)) = wdX cI cS q qb qs qS qC pb ps tr fa fr rb rl ra wl WS BI BA SI SA LN SZ (va_up CE j f) :=
  match j, hj with
  | 0, _ => rfl
  | 1, _ => rfl
  | 2, _ => rfl
  | 3, _ => rfl
theorem wX_c (hj : j < 4) : [25 + 2 * j, 26 + 2 * j].map (fun i => (wdX cI cS q qb qs qS qC pb ps tr fa fr rb rl ra wl WS BI BA SI SA LN SZ CE)[i]?) = (wdS cI (qS j) (qC j) (LN j) (SZ j) (CE j)).map some :=
  match j, hj with
  | 0, _ => rfl
  | 1, _ => rfl
  | 2, _ => rfl
  | 3, _ => rfl
theorem wX_n (hj : j < 4) : va_nd [25 + 2 * j, 26 + 2 * j] = true :=
  match j, hj with
  | 0, _ => rfl
  | 1, _ => rfl
  | 2, _ => rfl
  | 3, _ => rfl
theorem wX_b (hj : j < 4) {a b : Int32} {f : Nat → Int32} : va_sets (wdX cI cS q qb qs qS qC pb ps tr fa fr rb rl ra wl WS BI BA SI SA LN SZ CE) [25 + 2 * j, 26 + 2 * j] (wdS cI (qS j) (qC j) a b f) = wdX cI cS q qb qs qS qC pb ps tr fa fr rb rl ra wl WS BI BA SI SA (upd LN j a) (upd SZ j b) (va_up CE j f) :=
  match j, hj with
  | 0, _ => rfl
  | 1, _ => rfl
  | 2, _ => rfl
  | 3, _ => rfl
theorem wX_b2 (hj : j < 4) {a b : Int32} : va_sets (wdX cI cS q qb qs qS qC pb ps tr fa fr rb rl ra wl WS BI BA SI SA LN SZ CE) [25 + 2 * j, 26 + 2 * j] (wdS cI (qS j) (qC j) a b (CE j)) = wdX cI cS q qb qs qS qC pb ps tr fa fr rb rl ra wl WS BI BA SI SA (upd LN j a) (upd SZ j b) CE :=
  match j, hj with
  | 0, _ => rfl
  | 1, _ => rfl
  | 2, _ => rfl
  | 3, _ => rfl
theorem wX_rc (hj : j < 4) : [2, 25 + 2 * j, 26 + 2 * j, 15, 16, 17, 18, 19, 20, 21, 22, 23, 24].map (fun i => (wdX cI cS q qb qs qS qC pb ps tr fa fr rb rl ra wl WS BI BA SI SA LN SZ CE)[i]?) = (wdR (q 2) (va_rf fr) rb rl ra ++ (wdS cI (qS j) (qC j) (LN j) (SZ j) (CE j) ++ wdB cI qs SI SA)).map some :=
  match j, hj with
  | 0, _ => rfl
  | 1, _ => rfl
  | 2, _ => rfl
  | 3, _ => rfl
theorem wX_rn (hj : j < 4) : va_nd [2, 25 + 2 * j, 26 + 2 * j, 15, 16, 17, 18, 19, 20, 21, 22, 23, 24] = true :=
  match j, hj with
  | 0, _ => rfl
  | 1, _ => rfl
  | 2, _ => rfl
  | 3, _ => rfl
theorem wX_rb (hj : j < 4) {fr' : Option Nat} {rb' rl' ra' : Int32} {SI' : Nat → Int32} {SA' : Nat → Nat → Int32} : va_sets (wdX cI cS q qb qs qS qC pb ps tr fa fr rb rl ra wl WS BI BA SI SA LN SZ CE) [2, 25 + 2 * j, 26 + 2 * j, 15, 16, 17, 18, 19, 20, 21, 22, 23, 24] (wdR (q 2) (va_rf fr') rb' rl' ra' ++ (wdS cI (qS j) (qC j) (LN j) (SZ j) (CE j) ++ wdB cI qs SI' SA')) = wdX cI cS q qb qs qS qC pb ps tr fa fr' rb' rl' ra' wl WS BI BA SI' SA' LN SZ CE :=
  match j, hj with
  | 0, _ => rfl
  | 1, _ => rfl
  | 2, _ => rfl
  | 3, _ => rfl
end WX
theorem kcp_link : Cond.methodLink RX4 231 arraycopyName ∈ gtbl := g_tb 498 (by decide +kernel) (by decide +kernel)
theorem kcp_stat : Cond.static arraycopyName ∈ gtbl := g_tb 499 (by decide +kernel) (by decide +kernel)
theorem kcp_nat : Cond.native arraycopyName ∈ gtbl := g_tb 500 (by decide +kernel) (by decide +kernel)
section AC
variable {Out : Type} {X : CX} {Qf : Out → State → Prop} {cc : ByteArray} {nL k n : Nat} {ret : Option FieldType} {rm : Room} {F : Option Out} {ws ws' : va_W} {lv : List (Nat × Value)} {pc : Nat} {st : List Value} {cI cS : ClassId}
theorem r_acopy (C : Cx X RX4 cc nL ret rm (tyz cI cS)) (q0 q1 : Nat) {a0 a : Nat} {f g : Nat → Int32} {sp dp z : Int32} (ha0 : ws[q0]? = some (a0, .inl (cI, 60, .inl f))) (ha1 : ws[q1]? = some (a, .inl (cI, 60, .inl g))) (hd : decode cc pc = .ok (.invokestatic 231, 3)) (hw : ws.set q1 (a, .inl (cI, 60, .inl (va_cpy f g sp.toNatClampNeg dp.toNatClampNeg z.toNatClampNeg))) = ws') (hfr : 1 ≤ rm.frames) (hlo : (st.map fun v => v.category).sum + 18 ≤ rm.locals)
    (K : JR X Qf nL k n F ws' lv (pc + 3) st) : JR X Qf nL k n (if sp < 0 ∨ dp < 0 ∨ z < 0 ∨ ¬ sp.toNatClampNeg + z.toNatClampNeg ≤ 60 ∨ ¬ dp.toNatClampNeg + z.toNatClampNeg ≤ 60 then none else F) ws lv pc (.int z :: .int dp :: .ref a :: .int sp :: .ref a0 :: st) :=
  fun o h H locs ls hP hD hS hl => by
  by_cases hi : sp < 0 ∨ dp < 0 ∨ z < 0 ∨ ¬ sp.toNatClampNeg + z.toNatClampNeg ≤ 60 ∨ ¬ dp.toNatClampNeg + z.toNatClampNeg ≤ 60
  · rw [if_pos hi] at h; cases h
  · rw [if_neg hi] at h
    refine va_copyi (ty := .int) C.1 C.2.1 (C.2.2.1.trans hl.1.symm) C.ow (C.hts kcp_link) (C.hts kcp_nat) (C.hts kcp_stat) (C.hts kz_J10) C.hK hP hD hS q0 q1 0 0 ha0 ha1 rfl rfl rfl (fun q => hi (Or.inl q)) (fun q => hi (Or.inr (Or.inl q))) (fun q => hi (Or.inr (Or.inr (Or.inl q)))) ?_ ?_ (fun _ _ => rfl) (by rw [C.room]; exact hfr) (by rw [C.room]; exact hlo) hd (fun H1 locs1 hP1 hD1 hS1 => K o h H1 locs1 ls (hw ▸ hP1) (hw ▸ hD1) hS1 hl)
    · exact Classical.byContradiction fun q => hi (Or.inr (Or.inr (Or.inr (Or.inl q))))
    · exact Classical.byContradiction fun q => hi (Or.inr (Or.inr (Or.inr (Or.inr q))))
end AC
