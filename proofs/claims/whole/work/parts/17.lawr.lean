section LR
variable {Out : Type} {X : CX} {Qf : Out → State → Prop} {own : String} {cc : ByteArray} {nL k n : Nat} {ret : Option FieldType} {rm : Room} {tys : List (ClassId × FieldType)} {F : Option Out} {ws ws' : va_W} {lv : List (Nat × Value)} {pc : Nat} {st : List Value}
def Scr (X : CX) (b L : Nat) (sc : Nat → Int32) : Prop := va_X b L sc (xs X) (xs X).heap ∧ b < (xs X).heap.size ∧ ¬ (xA X) b
theorem r_sld (C : Cx X own cc nL ret rm tys) {b L : Nat} {sc : Nat → Int32} (hX : Scr X b L sc) {i : Int32} (hd : decode cc pc = .ok (.iaload, 1)) (K : JR X Qf nL k n F ws lv (pc + 1) (.int (sc i.toNatClampNeg) :: st)) : JR X Qf nL k n (if i < 0 ∨ L ≤ i.toNatClampNeg then none else F) ws lv pc (.int i :: .ref b :: st) :=
  fun o h H locs ls hP hD hS hl => by
  by_cases hi : i < 0 ∨ L ≤ i.toNatClampNeg
  · rw [if_pos hi] at h; cases h
  · rw [if_neg hi] at h; exact va_sld C.1 C.2.1 hX.1 hX.2.1 hX.2.2 hS hi hd (K o h H locs ls hP hD hS hl)
theorem r_slen (C : Cx X own cc nL ret rm tys) {b L : Nat} {sc : Nat → Int32} (hX : Scr X b L sc) (hd : decode cc pc = .ok (.arraylength, 1)) (K : JR X Qf nL k n F ws lv (pc + 1) (.int (Int32.ofNat L) :: st)) : JR X Qf nL k n F ws lv pc (.ref b :: st) :=
  fun o h H locs ls hP hD hS hl => va_slen C.1 C.2.1 hX.1 hX.2.1 hX.2.2 hS hd (K o h H locs ls hP hD hS hl)
theorem r_ne (i j : Nat) {p q : Nat × va_E} (hi : ws[i]? = some p) (hj : ws[j]? = some q) (hij : i ≠ j) (K : p.1 ≠ q.1 → JR X Qf nL k n F ws lv pc st) : JR X Qf nL k n F ws lv pc st :=
  fun o h H locs ls hP hD hS hl => K (fun e => hij (hD.1 i j p q hi hj e)) o h H locs ls hP hD hS hl
end LR
theorem va_sets_range : ∀ (w w' pre r : va_W), w'.length = w.length → va_sets (pre ++ (w ++ r)) (List.range' pre.length w.length) w' = pre ++ (w' ++ r) := by
  intro w
  induction w with
  | nil =>
    intro w' pre r h
    cases w' with
    | nil => rfl
    | cons a b => simp at h
  | cons e w ih =>
    intro w' pre r h
    cases w' with
    | nil => simp at h
    | cons e' w' =>
      have h1 : (pre ++ (e :: w ++ r)).set pre.length e' = (pre ++ [e']) ++ (w ++ r) := by
        rw [List.set_append_right _ _ (Nat.le_refl _)]
        simp
      have h2 := ih w' (pre ++ [e']) r (by simpa using h)
      rw [List.length_append] at h2
      show va_sets ((pre ++ (e :: w ++ r)).set pre.length e') (List.range' (pre.length + 1) w.length) w' = _
      rw [h1]
      refine h2.trans ?_
      simp
/-! the law's world: the class's cells, then the reference's -/
section LW
variable {cI cS : ClassId} {q qb qs qS qC p : Nat → Nat} {pb ps : Nat} {tr fa : Int32} {fr : Option Nat} {rb rl ra wl : Int32} {WS BI : Nat → Int32} {BA : Nat → Nat → Int32} {SI : Nat → Int32} {SA : Nat → Nat → Int32} {LN SZ : Nat → Int32} {CE : Nat → Nat → Int32} {MI : Nat → Int32} {MA : Nat → Nat → Int32}
variable {pb' ps' : Nat} {tr' fa' : Int32} {fr' : Option Nat} {rb' rl' ra' wl' : Int32} {WS' BI' : Nat → Int32} {BA' : Nat → Nat → Int32} {SI' : Nat → Int32} {SA' : Nat → Nat → Int32} {LN' SZ' : Nat → Int32} {CE' : Nat → Nat → Int32} {MI' : Nat → Int32} {MA' : Nat → Nat → Int32}
abbrev isX : List Nat := [0, 1, 2, 3, 4, 5, 6, 7, 8, 9, 10, 11, 12, 13, 14, 15, 16, 17, 18, 19, 20, 21, 22, 23, 24, 25, 26, 27, 28, 29, 30, 31, 32]
abbrev isM : List Nat := [33, 34, 35, 36, 37, 38, 39, 40, 41, 42, 43, 44, 45, 46, 47, 48, 49, 50, 51, 52, 53, 54]
abbrev isP : List Nat := [0, 1, 2, 3, 4, 15, 16, 17, 18, 19, 20, 21, 22, 23, 24, 5, 6, 7, 8, 9, 10, 11, 12, 13, 14, 25, 26, 27, 28, 29, 30, 31, 32, 33, 34, 35, 36, 37, 38, 39, 40, 41, 42, 43, 44, 45, 46, 47, 48, 49, 50, 51, 52, 53, 54]
theorem ndX : va_nd isX = true := by decide +kernel
theorem ndM : va_nd isM = true := by decide +kernel
theorem ndP : va_nd isP = true := by decide +kernel
theorem cutX : isX.map (fun i => (wdX cI cS q qb qs qS qC pb ps tr fa fr rb rl ra wl WS BI BA SI SA LN SZ CE ++ wdM cI p MI MA)[i]?) = (wdX cI cS q qb qs qS qC pb ps tr fa fr rb rl ra wl WS BI BA SI SA LN SZ CE).map some := rfl
theorem cutM : isM.map (fun i => (wdX cI cS q qb qs qS qC pb ps tr fa fr rb rl ra wl WS BI BA SI SA LN SZ CE ++ wdM cI p MI MA)[i]?) = (wdM cI p MI MA).map some := rfl
theorem setX : va_sets (wdX cI cS q qb qs qS qC pb ps tr fa fr rb rl ra wl WS BI BA SI SA LN SZ CE ++ wdM cI p MI MA) isX (wdX cI cS q qb qs qS qC pb' ps' tr' fa' fr' rb' rl' ra' wl' WS' BI' BA' SI' SA' LN' SZ' CE') = wdX cI cS q qb qs qS qC pb' ps' tr' fa' fr' rb' rl' ra' wl' WS' BI' BA' SI' SA' LN' SZ' CE' ++ wdM cI p MI MA := va_sets_range (wdX cI cS q qb qs qS qC pb ps tr fa fr rb rl ra wl WS BI BA SI SA LN SZ CE) (wdX cI cS q qb qs qS qC pb' ps' tr' fa' fr' rb' rl' ra' wl' WS' BI' BA' SI' SA' LN' SZ' CE') [] (wdM cI p MI MA) rfl
theorem setM : va_sets (wdX cI cS q qb qs qS qC pb ps tr fa fr rb rl ra wl WS BI BA SI SA LN SZ CE ++ wdM cI p MI MA) isM (wdM cI p MI' MA') = wdX cI cS q qb qs qS qC pb ps tr fa fr rb rl ra wl WS BI BA SI SA LN SZ CE ++ wdM cI p MI' MA' := by
  have h := va_sets_range (wdM cI p MI MA) (wdM cI p MI' MA') (wdX cI cS q qb qs qS qC pb ps tr fa fr rb rl ra wl WS BI BA SI SA LN SZ CE) [] rfl
  rw [List.append_nil, List.append_nil] at h
  exact h
theorem adrX : (wdX cI cS q qb qs qS qC pb' ps' tr' fa' fr' rb' rl' ra' wl' WS' BI' BA' SI' SA' LN' SZ' CE').map Prod.fst = (wdX cI cS q qb qs qS qC pb ps tr fa fr rb rl ra wl WS BI BA SI SA LN SZ CE).map Prod.fst := rfl
theorem adrM : (wdM cI p MI' MA').map Prod.fst = (wdM cI p MI MA).map Prod.fst := rfl
theorem permX : isP.map (fun i => (wdX cI cS q qb qs qS qC pb ps tr fa fr rb rl ra wl WS BI BA SI SA LN SZ CE ++ wdM cI p MI MA)[i]?) = (wdX cI cS q qs qb qS qC pb ps tr fa fr rb rl ra wl WS SI SA BI BA LN SZ CE ++ wdM cI p MI MA).map some := rfl
end LW
