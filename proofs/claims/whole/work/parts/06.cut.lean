/-! calls over a part of the world: the part's places isC; what comes back is put at the same places -/
def va_sets : va_W → List Nat → va_W → va_W
  | ws, i :: is, e :: es => va_sets (ws.set i e) is es
  | ws, _, _ => ws
theorem va_sets_off : ∀ (is : List Nat) (es ws : va_W) (j : Nat), j ∉ is → (va_sets ws is es)[j]? = ws[j]? := by
  intro is
  induction is with
  | nil => intro es ws j _; cases es <;> rfl
  | cons i is ih =>
    intro es ws j hj
    cases es with
    | nil => rfl
    | cons e es =>
      show (va_sets (ws.set i e) is es)[j]? = _
      rw [ih es (ws.set i e) j (fun h => hj (List.mem_cons_of_mem _ h))]
      exact List.getElem?_set_ne (show i ≠ j from fun h => hj (by rw [← h]; exact List.mem_cons_self))
theorem va_sets_on : ∀ (is : List Nat) (es ws : va_W), es.length = is.length → is.Nodup → (∀ i ∈ is, i < ws.length) → ∀ (j : Nat) (i : Nat), is[j]? = some i → (va_sets ws is es)[i]? = es[j]? := by
  intro is
  induction is with
  | nil => intro es ws _ _ _ j i h; simp at h
  | cons i0 is ih =>
    intro es ws hlen hnd hlt j i h
    cases es with
    | nil => simp at hlen
    | cons e es =>
      show (va_sets (ws.set i0 e) is es)[i]? = _
      have hnd' := List.nodup_cons.mp hnd
      cases j with
      | zero =>
        simp at h
        subst h
        rw [va_sets_off is es _ i0 hnd'.1]
        simp [hlt i0 List.mem_cons_self]
      | succ j =>
        simp at h
        rw [ih es (ws.set i0 e) (by simpa using hlen) hnd'.2 (fun x hx => by simpa using hlt x (List.mem_cons_of_mem _ hx)) j i h]
        simp
theorem va_nd_nodup : ∀ {l : List Nat}, va_nd l = true → l.Nodup := by
  intro l
  induction l with
  | nil => intro _; exact List.nodup_nil
  | cons a l ih =>
    intro h
    simp only [va_nd, Bool.and_eq_true] at h
    refine List.nodup_cons.mpr ⟨?_, ih h.2⟩
    have h1 := h.1
    simpa using h1
theorem va_pl_len {is : List Nat} {ws wc : va_W} (hC : is.map (fun i => ws[i]?) = wc.map some) : wc.length = is.length := by
  have := congrArg List.length hC
  simpa using this.symm
theorem va_pl_at {is : List Nat} {ws wc : va_W} (hC : is.map (fun i => ws[i]?) = wc.map some) {j i : Nat} (h : is[j]? = some i) : ws[i]? = wc[j]? := by
  have h1 := congrArg (fun l => l[j]?) hC
  simp only [List.getElem?_map, h, Option.map_some] at h1
  cases hw : wc[j]? with
  | none => rw [hw] at h1; simp at h1
  | some q => rw [hw] at h1; simpa using h1
theorem va_pl_ex {is : List Nat} {ws wc : va_W} (hC : is.map (fun i => ws[i]?) = wc.map some) {j : Nat} {q : Nat × va_E} (h : wc[j]? = some q) : ∃ i, is[j]? = some i ∧ ws[i]? = some q := by
  have hlt : j < is.length := by rw [← va_pl_len hC]; exact (List.getElem?_eq_some_iff.mp h).1
  exact ⟨is[j], List.getElem?_eq_getElem hlt, by rw [va_pl_at hC (List.getElem?_eq_getElem hlt), h]⟩
section CUT
variable {ws wc w1 : va_W} {is : List Nat} {D : va_G} {A : Nat → Prop} {H H1 : Heap}
theorem cut_P (hC : is.map (fun i => ws[i]?) = wc.map some) (hnd : va_nd is = true) (hlen : w1.map Prod.fst = wc.map Prod.fst) (hP : va_P D vwCl ws H) (hD : va_D A ws) (hP1 : va_P D vwCl w1 H1) (hk : ∀ q : Nat, q < H.size → ¬ va_A wc H.size q → H1[q]? = H[q]?) : va_P D vwCl (va_sets ws is w1) H1 := by
  intro p q hq
  have hl1 : w1.length = is.length := by rw [← va_pl_len hC]; simpa using congrArg List.length hlen
  have hlt : ∀ i ∈ is, i < ws.length := by
    intro i hi
    obtain ⟨j, hj⟩ := List.getElem?_of_mem hi
    have e := va_pl_at hC hj
    have hjl : j < wc.length := by rw [va_pl_len hC]; exact (List.getElem?_eq_some_iff.mp hj).1
    rw [List.getElem?_eq_getElem hjl] at e
    exact (List.getElem?_eq_some_iff.mp e).1
  by_cases hp : p ∈ is
  · obtain ⟨j, hj⟩ := List.getElem?_of_mem hp
    rw [va_sets_on is w1 ws hl1 (va_nd_nodup hnd) hlt j p hj] at hq
    exact hP1 j q hq
  · rw [va_sets_off is w1 ws p hp] at hq
    refine (hP p q hq).kept (hk q.1 (hP p q hq).lt ?_)
    rintro (⟨j, e, hj⟩ | hge)
    · obtain ⟨i, hi, hw⟩ := va_pl_ex hC hj
      have := hD.1 i p _ _ hw hq rfl
      exact hp (this ▸ List.mem_of_getElem? hi)
    · exact absurd (hP p q hq).lt (Nat.not_lt.mpr hge)
theorem cut_adr (hC : is.map (fun i => ws[i]?) = wc.map some) (hnd : va_nd is = true) (hlen : w1.map Prod.fst = wc.map Prod.fst) {p : Nat} {q : Nat × va_E} (hq : (va_sets ws is w1)[p]? = some q) : ∃ q', ws[p]? = some q' ∧ q'.1 = q.1 := by
  have hl1 : w1.length = is.length := by rw [← va_pl_len hC]; simpa using congrArg List.length hlen
  have hlt : ∀ i ∈ is, i < ws.length := by
    intro i hi
    obtain ⟨j, hj⟩ := List.getElem?_of_mem hi
    have e := va_pl_at hC hj
    have hjl : j < wc.length := by rw [va_pl_len hC]; exact (List.getElem?_eq_some_iff.mp hj).1
    rw [List.getElem?_eq_getElem hjl] at e
    exact (List.getElem?_eq_some_iff.mp e).1
  by_cases hp : p ∈ is
  · obtain ⟨j, hj⟩ := List.getElem?_of_mem hp
    rw [va_sets_on is w1 ws hl1 (va_nd_nodup hnd) hlt j p hj] at hq
    have hjl : j < wc.length := by rw [va_pl_len hC]; exact (List.getElem?_eq_some_iff.mp hj).1
    refine ⟨wc[j], by rw [va_pl_at hC hj]; exact List.getElem?_eq_getElem hjl, ?_⟩
    have h2 := congrArg (fun l => l[j]?) hlen
    simp only [List.getElem?_map, hq, List.getElem?_eq_getElem hjl, Option.map_some] at h2
    exact (Option.some.inj h2).symm
  · rw [va_sets_off is w1 ws p hp] at hq
    exact ⟨q, hq, rfl⟩
theorem cut_D (hC : is.map (fun i => ws[i]?) = wc.map some) (hnd : va_nd is = true) (hlen : w1.map Prod.fst = wc.map Prod.fst) (hD : va_D A ws) : va_D A (va_sets ws is w1) := by
  refine ⟨fun i j p q hi hj hpq => ?_, fun i q hi => ?_⟩
  · obtain ⟨p', h1, e1⟩ := cut_adr hC hnd hlen hi
    obtain ⟨q', h2, e2⟩ := cut_adr hC hnd hlen hj
    exact hD.1 i j p' q' h1 h2 (by rw [e1, e2, hpq])
  · obtain ⟨q', h1, e1⟩ := cut_adr hC hnd hlen hi
    rw [← e1]
    exact hD.2 i q' h1
theorem cut_sub (hC : is.map (fun i => ws[i]?) = wc.map some) (hP : va_P D vwCl ws H) : va_P D vwCl wc H := fun j q hj => by
  obtain ⟨i, -, hw⟩ := va_pl_ex hC hj
  exact hP i q hw
theorem cut_Dsub (hC : is.map (fun i => ws[i]?) = wc.map some) (hnd : va_nd is = true) (hD : va_D A ws) : va_D A wc := by
  refine ⟨fun a b p q ha hb hpq => ?_, fun a q ha => ?_⟩
  · obtain ⟨i, hi, hw⟩ := va_pl_ex hC ha
    obtain ⟨j, hj, hv⟩ := va_pl_ex hC hb
    have e := hD.1 i j p q hw hv hpq
    subst e
    exact va_nd_inj _ hnd a b _ hi hj
  · obtain ⟨i, hi, hw⟩ := va_pl_ex hC ha
    exact hD.2 i q hw
end CUT
section RC
variable {Out : Type} {X : CX} {Qf : Out → State → Prop} {own : String} {cc : ByteArray} {nL k n : Nat} {ret : Option FieldType} {rm : Room} {tys : List (ClassId × FieldType)} {F F1 F2 : Option Out} {ws : va_W} {lv lv' : List (Nat × Value)} {pc tgt : Nat} {st : List Value}
variable {Out' : Type} {f : Option Out'} {vv : Out' → Option Value} {wd : Out' → va_W} {G : Out' → Option Out} {y : MethodName} {bytes : ByteArray} {maxL idx nA b : Nat} {rt : Option FieldType} {rm' : Room} {As rest : List Value} {wc : va_W}
theorem r_backC (C : Cx X own cc nL ret rm tys) {H : Heap} {locs : List Loc} {ls : Array Slot} {o : Out'} {out : Out} {as : Array Value} (isC : List Nat) (hC : isC.map (fun i => ws[i]?) = wc.map some) (hnd : va_nd isC = true) (ws' : Out' → va_W) (hB : ∀ o, va_sets ws isC (wd o) = ws' o) (hadr : ∀ o, (wd o).map Prod.fst = wc.map Prod.fst)
    (hrun : va_Run (xp X) (xl X) (xe X) (xR X) (xs X) (xm X) (xa X) (xb X) (xt X) (xc X) H locs k n 0 0 (F0 (xm X) pc ls st) rest (QO (xD X) tys (va_A wc H.size) (vv o) (wd o) as) (va_A wc H.size)) (hG : G o = some out) (hP : va_P (xD X) vwCl ws H) (hD : va_D (xA X) ws) (hS : va_S (xA X) (xs X).heap H locs) (hl : lv_has ls nL lv)
    (K : ∀ o, JR X Qf nL k n (G o) (ws' o) lv (pc + 3) ((vv o).toList ++ rest)) : W (xp X) (xl X) (xe X) (xR X) (xs X) (xm X) (xa X) (xb X) (xt X) (xc X) H locs k n (Qf out) (F0 (xm X) pc ls st) := by
  intro T hT XX
  obtain ⟨v, st₀, t, T', L, h0, X', hL, e1, e2, ⟨hv, ⟨hP1, hK1, hD1⟩, hF⟩, goes⟩ := hrun T hT XX
  cases hv
  have hfree := r_free C hS (wc := wc) (fun j q hj => (cut_Dsub hC hnd hD).2 j q hj)
  have hS2 := r_S (L := L) hS h0 e1 hF hfree hL
  rw [← e1] at hP1
  have hk : ∀ q : Nat, q < H.size → ¬ va_A wc H.size q → T'.heap[q]? = H[q]? := fun q h1 h2 => by
    rw [e1, hF.2 q (by rw [h0]; exact h1) h2, h0]
  obtain ⟨t2, a1, b1⟩ := K o out hG T'.heap (locs ++ L) ls (hB o ▸ cut_P hC hnd (hadr o) hP hD hP1 hk) (hB o ▸ cut_D hC hnd (hadr o) hD) hS2 hl T' rfl X'
  exact ⟨t2, goes t2 a1, b1⟩
theorem r_callV (C : Cx X own cc nL ret rm tys) (isC : List Nat) (ws' : Out' → va_W) (hM : MX (xl X) (xD X) tys y bytes maxL rt rm' (.ref b :: As) wc f vv wd) (hw : okV own idx y bytes maxL rt nA) (hC : isC.map (fun i => ws[i]?) = wc.map some) (hnd : va_nd isC = true) (hB : ∀ o, va_sets ws isC (wd o) = ws' o) (hadr : ∀ o, (wd o).map Prod.fst = wc.map Prod.fst)
    {ci N : Nat} {T : u_T} {fs : List Value} (hcl : vwCl[ci]? = some (y.cls, T, N)) (hrc : wc[0]? = some (b, .inr (ci, fs)))
    (hrm : rmOk rm' maxL rm = true) (hkn : k ≤ rm.cells ∧ n ≤ rm.slots) (hst : st = As.reverse ++ .ref b :: rest) (hnA : As.length = nA) (hrest : (rest.map fun v => v.category).sum ≤ 8) (hd : decode cc pc = .ok (.invokevirtual idx, 3))
    (K : ∀ o, JR X Qf nL k n (G o) (ws' o) lv (pc + 3) ((vv o).toList ++ rest)) : JR X Qf nL k n (f.bind G) ws lv pc st := by
  intro out h H locs ls hP hD hS hl
  obtain ⟨o, ho, hG⟩ := Option.bind_eq_some_iff.mp h
  exact r_backC C isC hC hnd ws' hB hadr (r_runV C hM hw hcl hrc hrm hkn hst hnA hrest hd ho (cut_sub hC hP) ((cut_Dsub hC hnd hD).weaken (fun _ _ _ _ => trivial)) hl) hG hP hD hS hl K
theorem r_callS (C : Cx X own cc nL ret rm tys) (isC : List Nat) (ws' : Out' → va_W) (hM : MX (xl X) (xD X) tys y bytes maxL rt rm' As wc f vv wd) (hw : okS own idx y bytes maxL rt nA) (hC : isC.map (fun i => ws[i]?) = wc.map some) (hnd : va_nd isC = true) (hB : ∀ o, va_sets ws isC (wd o) = ws' o) (hadr : ∀ o, (wd o).map Prod.fst = wc.map Prod.fst)
    (hrm : rmOk rm' maxL rm = true) (hkn : k ≤ rm.cells ∧ n ≤ rm.slots) (hst : st = As.reverse ++ rest) (hnA : As.length = nA) (hrest : (rest.map fun v => v.category).sum ≤ 8) (hd : decode cc pc = .ok (.invokestatic idx, 3))
    (K : ∀ o, JR X Qf nL k n (G o) (ws' o) lv (pc + 3) ((vv o).toList ++ rest)) : JR X Qf nL k n (f.bind G) ws lv pc st := by
  intro out h H locs ls hP hD hS hl
  obtain ⟨o, ho, hG⟩ := Option.bind_eq_some_iff.mp h
  exact r_backC C isC hC hnd ws' hB hadr (r_runS C hM hw hrm hkn hst hnA hrest hd ho (cut_sub hC hP) ((cut_Dsub hC hnd hD).weaken (fun _ _ _ _ => trivial)) hl) hG hP hD hS hl K
/-- a call that leaves its part as it was -/
theorem va_sets_self {is : List Nat} {ws wc : va_W} (hC : is.map (fun i => ws[i]?) = wc.map some) : va_sets ws is wc = ws := by
  induction is generalizing wc with
  | nil => cases wc <;> rfl
  | cons i is ih =>
    cases wc with
    | nil => rfl
    | cons e es =>
      simp only [List.map_cons, List.cons.injEq] at hC
      show va_sets (ws.set i e) is es = ws
      have e1 : ws.set i e = ws := by
        apply List.ext_getElem?
        intro j
        by_cases hj : i = j
        · subst hj
          have hlt := (List.getElem?_eq_some_iff.mp hC.1).1
          rw [hC.1, List.getElem?_set_self hlt]
        · exact List.getElem?_set_ne hj
      rw [e1]
      exact ih hC.2
theorem r_callVr (C : Cx X own cc nL ret rm tys) (isC : List Nat) (hM : MX (xl X) (xD X) tys y bytes maxL rt rm' (.ref b :: As) wc f vv (fun _ => wc)) (hw : okV own idx y bytes maxL rt nA) (hC : isC.map (fun i => ws[i]?) = wc.map some) (hnd : va_nd isC = true)
    {ci N : Nat} {T : u_T} {fs : List Value} (hcl : vwCl[ci]? = some (y.cls, T, N)) (hrc : wc[0]? = some (b, .inr (ci, fs)))
    (hrm : rmOk rm' maxL rm = true) (hkn : k ≤ rm.cells ∧ n ≤ rm.slots) (hst : st = As.reverse ++ .ref b :: rest) (hnA : As.length = nA) (hrest : (rest.map fun v => v.category).sum ≤ 8) (hd : decode cc pc = .ok (.invokevirtual idx, 3))
    (K : ∀ o, JR X Qf nL k n (G o) ws lv (pc + 3) ((vv o).toList ++ rest)) : JR X Qf nL k n (f.bind G) ws lv pc st :=
  r_callV C isC (fun _ => ws) hM hw hC hnd (fun _ => va_sets_self hC) (fun _ => rfl) hcl hrc hrm hkn hst hnA hrest hd K
theorem r_callSr (C : Cx X own cc nL ret rm tys) (hM : MX (xl X) (xD X) tys y bytes maxL rt rm' As [] f vv (fun _ => [])) (hw : okS own idx y bytes maxL rt nA)
    (hrm : rmOk rm' maxL rm = true) (hkn : k ≤ rm.cells ∧ n ≤ rm.slots) (hst : st = As.reverse ++ rest) (hnA : As.length = nA) (hrest : (rest.map fun v => v.category).sum ≤ 8) (hd : decode cc pc = .ok (.invokestatic idx, 3))
    (K : ∀ o, JR X Qf nL k n (G o) ws lv (pc + 3) ((vv o).toList ++ rest)) : JR X Qf nL k n (f.bind G) ws lv pc st :=
  r_callS C [] (fun _ => ws) hM hw rfl rfl (fun _ => rfl) (fun _ => rfl) hrm hkn hst hnA hrest hd K
end RC
