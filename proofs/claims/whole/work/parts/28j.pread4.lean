/-! all the posts, all the silences -/
section RF
variable {SI : Nat → Int32} {SA : Nat → Nat → Int32} {MI0 : Nat → Int32} {MA0 : Nat → Nat → Int32} {ce : Nat → Int32} {j i n s : Nat}
theorem m83_0 (km : Int32 → (Nat → Int32) → (Nat → Nat → Int32) → Option (Int32 × (Nat → Int32) × (Nat → Nat → Int32))) (a b : Int32) {f : Nat} (hf : 0 < f) (MI : Nat → Int32) (MA : Nat → Nat → Int32) : lp_X5_readsFrontier_83 km a b f 0 MI MA = km 0 MI MA := by
  obtain ⟨f, rfl⟩ : ∃ q, f = q + 1 := ⟨f - 1, by omega⟩
  unfold lp_X5_readsFrontier_83
  rw [if_pos rfl]
theorem m115_0 (km : Int32 → (Nat → Int32) → (Nat → Nat → Int32) → Option (Int32 × (Nat → Int32) × (Nat → Nat → Int32))) (a b : Int32) {f : Nat} (hf : 0 < f) (MI : Nat → Int32) (MA : Nat → Nat → Int32) : lp_X5_readsFrontier_115 km a b f 0 MI MA = km 0 MI MA := by
  obtain ⟨f, rfl⟩ : ∃ q, f = q + 1 := ⟨f - 1, by omega⟩
  unfold lp_X5_readsFrontier_115
  rw [if_pos rfl]
theorem ag_p {MI : Nat → Int32} (h : ag MI0 MI) (a b : Int32) : ag MI0 (upd (upd MI 14 a) 16 b) := ag_u (ag_u h (by decide) _) (by decide) _
theorem pl (hj : j < 4) (hin : i + n ≤ s) (hs : s ≤ 60) (hc : ∀ x, x < s → ce x = MA0 31 (60 * j + x)) (km : Int32 → (Nat → Int32) → (Nat → Nat → Int32) → Option (Int32 × (Nat → Int32) × (Nat → Nat → Int32))) : ∀ d fuel fuel' (g : Nat → Nat) (G : Nat → Nat → Nat) (SI : Nat → Int32) (SA : Nat → Nat → Int32) (MI : Nat → Int32) (MA : Nat → Nat → Int32) (x : Nat), g 0 + d = 4 → d < fuel → d + 1 < fuel' → VX SI SA g G → NW g G → PT MI MA g G x → ag MI0 MI → agA MA0 MA → x ≤ n → g 3 = 0 →
    (∃ x' SI' SA' MI' MA', x' ≤ n ∧ lp_X2_readPosts_2 (fun el2_2 era_2 eBI_2 eBA_2 => some ((1 : Int32), era_2, eBI_2, eBA_2)) (nI i) (nI n) (nI s) ce fuel (nI (g 0)) (nI x) SI SA = some (0, nI x', SI', SA') ∧ SI' 12 = -9 ∧ lp_X5_readsFrontier_83 km (nI (60 * j + i)) (nI n) fuel' 1 MI MA = km 0 MI' MA' ∧ MI' 14 = nI x' ∧ ag MI0 MI' ∧ agA MA0 MA') ∨
    (∃ (g' : Nat → Nat) (G' : Nat → Nat → Nat) (x' : Nat) (SI' : Nat → Int32) (SA' : Nat → Nat → Int32) (MI' : Nat → Int32) (MA' : Nat → Nat → Int32), x' ≤ n ∧ lp_X2_readPosts_2 (fun el2_2 era_2 eBI_2 eBA_2 => some ((1 : Int32), era_2, eBI_2, eBA_2)) (nI i) (nI n) (nI s) ce fuel (nI (g 0)) (nI x) SI SA = some (1, nI x', SI', SA') ∧ VX SI' SA' g' G' ∧ NW g' G' ∧ PT MI' MA' g' G' x' ∧ ag MI0 MI' ∧ agA MA0 MA' ∧ g' 3 = 0 ∧ 0 < g' 0 ∧ (lp_X5_readsFrontier_83 km (nI (60 * j + i)) (nI n) fuel' 1 MI MA = km 1 MI' MA' ∨ (lp_X5_readsFrontier_83 km (nI (60 * j + i)) (nI n) fuel' 1 MI MA = km 0 MI' MA' ∧ cdF ce i n x' = 59))) := by
  intro d
  induction d with
  | zero =>
    intro fuel fuel' g G SI SA MI MA x hd hf hf' V w P a aA hx g3
    obtain ⟨f, rfl⟩ : ∃ f, fuel = f + 1 := ⟨fuel - 1, by omega⟩
    obtain ⟨f', rfl⟩ : ∃ f, fuel' = f + 1 := ⟨fuel' - 1, by omega⟩
    right
    have hc' : ∀ x, x < s → ce x = MA 31 (60 * j + x) := fun x hx => by rw [aA 31 (by omega)]; exact hc x hx
    refine ⟨g, G, x, SI, SA, MI, MA, hx, ?_, V, w, P, a, aA, g3, by omega, ?_⟩
    · unfold lp_X2_readPosts_2
      rw [if_pos (show (4 : Int32) ≤ nI (g 0) by rw [li4, s_le (by omega) (by omega)]; omega)]
    · unfold lp_X5_readsFrontier_83
      rw [if_neg i10, P.2.2.1, if_neg (show ¬ nI (g 0) = 0 by rw [s_eq0 (by omega)]; omega), m_code hj hin hs hc' (by omega) P.1, ibn]
      by_cases q : cdF ce i n x = 59
      · right
        refine ⟨?_, q⟩
        rw [if_pos q]
        unfold f_X5_readsPost
        rw [P.2.2.1, if_pos (show nI (g 0) = 4 by rw [li4, s_eq (by omega) (by omega)]; omega), ibn, m83_0 _ _ _ (by omega)]
      · left
        rw [if_neg q]
  | succ d ih =>
    intro fuel fuel' g G SI SA MI MA x hd hf hf' V w P a aA hx g3
    obtain ⟨f, rfl⟩ : ∃ f, fuel = f + 1 := ⟨fuel - 1, by omega⟩
    obtain ⟨f', rfl⟩ : ∃ f, fuel' = f + 1 := ⟨fuel' - 1, by omega⟩
    have hc' : ∀ x, x < s → ce x = MA 31 (60 * j + x) := fun x hx => by rw [aA 31 (by omega)]; exact hc x hx
    have h12 : SI 12 = -9 := by rw [V.2.2.2.2.2.1, w.2.2.2.1]; rfl
    have hsp := sp V w P hj hin hs hc' hx (by omega) (fun ra BI BA => lp_X2_readPosts_2 (fun el2_2 era_2 eBI_2 eBA_2 => some ((1 : Int32), era_2, eBI_2, eBA_2)) (nI i) (nI n) (nI s) ce f (nI (g 0) + (1 : Int32)) ra BI BA)
    have q4 : ¬ (4 : Int32) ≤ nI (g 0) := by rw [li4, s_le (by omega) (by omega)]; omega
    have body : ∀ (cl : Option (Int32 × Int32 × (Nat → Int32) × (Nat → Nat → Int32))) (mo : Option (Int32 × (Nat → Int32) × (Nat → Nat → Int32))), cl = (Option.bind (f_X2_takes (nI i) (nI n) (nI x) (nI s) ce (59 : Int32) (59 : Int32)) fun r27 => if r27.1 = 0 then (some ((0 : Int32), r27.2, SI, SA)) else (Option.bind (f_X2_takes (nI i) (nI n) r27.2 (nI s) ce (49 : Int32) (57 : Int32)) fun r38 => if r38.1 = 0 then (some ((0 : Int32), r38.2, SI, SA)) else (Option.bind (f_X2_takes (nI i) (nI n) r38.2 (nI s) ce (48 : Int32) (57 : Int32)) fun r49 => if r49.1 = 0 then (some ((0 : Int32), r49.2, SI, SA)) else (Option.bind (f_X2_digitBefore (nI i) r49.2 (nI s) ce (2 : Int32)) fun r60 => Option.bind (f_X2_digitBefore (nI i) r49.2 (nI s) ce (1 : Int32)) fun r65 => Option.bind (f_X0_addPost SI SA r60 r65) fun r68 => lp_X2_readPosts_2 (fun el2_2 era_2 eBI_2 eBA_2 => some ((1 : Int32), era_2, eBI_2, eBA_2)) (nI i) (nI n) (nI s) ce f (nI (g 0) + (1 : Int32)) r49.2 r68.1 r68.2)))) → mo = (Option.bind (f_X5_readsPost MI MA (nI (60 * j + i)) (nI n)) fun r108 => lp_X5_readsFrontier_83 km (nI (60 * j + i)) (nI n) f' r108.1 r108.2.1 r108.2.2) →
        (∃ x' SI' SA' MI' MA', x' ≤ n ∧ cl = some (0, nI x', SI', SA') ∧ SI' 12 = -9 ∧ mo = km 0 MI' MA' ∧ MI' 14 = nI x' ∧ ag MI0 MI' ∧ agA MA0 MA') ∨
        (∃ (g' : Nat → Nat) (G' : Nat → Nat → Nat) (x' : Nat) (SI' : Nat → Int32) (SA' : Nat → Nat → Int32) (MI' : Nat → Int32) (MA' : Nat → Nat → Int32), x' ≤ n ∧ cl = some (1, nI x', SI', SA') ∧ VX SI' SA' g' G' ∧ NW g' G' ∧ PT MI' MA' g' G' x' ∧ ag MI0 MI' ∧ agA MA0 MA' ∧ g' 3 = 0 ∧ 0 < g' 0 ∧ (mo = km 1 MI' MA' ∨ (mo = km 0 MI' MA' ∧ cdF ce i n x' = 59))) := by
      intro cl mo h1 h2
      rcases hsp with ⟨x', hx', c1, c2⟩ | ⟨v1, v2, k1, k2, k3, k4, c1, c2⟩
      · left
        refine ⟨x', SI, SA, upd MI 14 (nI x'), MA, hx', h1.trans c1, h12, ?_, uu_s _ _ _, ag_u a (by decide) _, aA⟩
        rw [h2, c2, ibn, m83_0 _ _ _ (by omega)]
      · rw [h1, h2, c1, c2, nI_1, ibn]
        exact ih f f' (va_up g 0 (g 0 + 1)) (G_k (G_k G 1 (g 0) v1) 2 (g 0) v2) _ _ _ _ (x + 3) (by show g 0 + 1 + d = 4; omega) (by omega) (by omega) (VX_p V w.2.2.2.2.1 v1 v2) (NW_p w (by omega) k1 k2 k3) (PT_p P v1 v2) (ag_p a _ _) (agA_u (agA_u aA (by decide) _) (by decide) _) k4 g3
    by_cases q0 : g 0 = 0
    · refine body _ _ ?_ ?_
      · rw [lp_X2_readPosts_2]
        rw [if_neg q4, if_pos (show nI (g 0) ≤ 0 by rw [s_le0 (by omega)]; exact q0)]
      · rw [lp_X5_readsFrontier_83]
        rw [if_neg i10, P.2.2.1, if_pos (show nI (g 0) = 0 by rw [s_eq0 (by omega)]; exact q0)]
    · by_cases q : cdF ce i n x = 59
      · refine body _ _ ?_ ?_
        · rw [lp_X2_readPosts_2]
          rw [if_neg q4, if_neg (show ¬ nI (g 0) ≤ 0 by rw [s_le0 (by omega)]; exact q0), x_code hin hs (by omega), ibn, if_pos q]
        · rw [lp_X5_readsFrontier_83]
          rw [if_neg i10, P.2.2.1, if_neg (show ¬ nI (g 0) = 0 by rw [s_eq0 (by omega)]; exact q0), m_code hj hin hs hc' (by omega) P.1, ibn, if_pos q]
      · right
        refine ⟨g, G, x, SI, SA, MI, MA, hx, ?_, V, w, P, a, aA, g3, by omega, Or.inl ?_⟩
        · rw [lp_X2_readPosts_2]
          rw [if_neg q4, if_neg (show ¬ nI (g 0) ≤ 0 by rw [s_le0 (by omega)]; exact q0), x_code hin hs (by omega), ibn, if_neg q]
        · rw [lp_X5_readsFrontier_83]
          rw [if_neg i10, P.2.2.1, if_neg (show ¬ nI (g 0) = 0 by rw [s_eq0 (by omega)]; exact q0), m_code hj hin hs hc' (by omega) P.1, ibn, if_neg q]
theorem sl (hj : j < 4) (hin : i + n ≤ s) (hs : s ≤ 60) (hc : ∀ x, x < s → ce x = MA0 31 (60 * j + x)) (km : Int32 → (Nat → Int32) → (Nat → Nat → Int32) → Option (Int32 × (Nat → Int32) × (Nat → Nat → Int32))) : ∀ d fuel fuel' (g : Nat → Nat) (G : Nat → Nat → Nat) (SI : Nat → Int32) (SA : Nat → Nat → Int32) (MI : Nat → Int32) (MA : Nat → Nat → Int32) (x : Nat), g 3 + d = 4 → d < fuel → d + 1 < fuel' → VX SI SA g G → NW g G → PT MI MA g G x → ag MI0 MI → agA MA0 MA → x ≤ n → 0 < g 0 →
    (∃ x' r SI' SA' MI' MA', x' ≤ n ∧ (r = 0 ∨ (r = 1 ∧ x' ≠ n)) ∧ lp_X2_readSilences_2 (fun el2_2 era_2 eBI_2 eBA_2 => some ((1 : Int32), era_2, eBI_2, eBA_2)) (nI i) (nI n) (nI s) ce fuel (nI (g 3)) (nI x) SI SA = some (r, nI x', SI', SA') ∧ SI' 12 = -9 ∧ lp_X5_readsFrontier_115 km (nI (60 * j + i)) (nI n) fuel' 1 MI MA = km 0 MI' MA' ∧ MI' 14 = nI x' ∧ ag MI0 MI' ∧ agA MA0 MA') ∨
    (∃ (g' : Nat → Nat) (G' : Nat → Nat → Nat) (SI' : Nat → Int32) (SA' : Nat → Nat → Int32) (MI' : Nat → Int32) (MA' : Nat → Nat → Int32), lp_X2_readSilences_2 (fun el2_2 era_2 eBI_2 eBA_2 => some ((1 : Int32), era_2, eBI_2, eBA_2)) (nI i) (nI n) (nI s) ce fuel (nI (g 3)) (nI x) SI SA = some (1, nI n, SI', SA') ∧ VX SI' SA' g' G' ∧ NW g' G' ∧ PT MI' MA' g' G' n ∧ ag MI0 MI' ∧ agA MA0 MA' ∧ 0 < g' 3 ∧ 0 < g' 0 ∧ lp_X5_readsFrontier_115 km (nI (60 * j + i)) (nI n) fuel' 1 MI MA = km 1 MI' MA') := by
  intro d
  induction d with
  | zero =>
    intro fuel fuel' g G SI SA MI MA x hd hf hf' V w P a aA hx g0
    obtain ⟨f, rfl⟩ : ∃ f, fuel = f + 1 := ⟨fuel - 1, by omega⟩
    obtain ⟨f', rfl⟩ : ∃ f, fuel' = f + 1 := ⟨fuel' - 1, by omega⟩
    have h12 : SI 12 = -9 := by rw [V.2.2.2.2.2.1, w.2.2.2.1]; rfl
    have c1 : lp_X2_readSilences_2 (fun el2_2 era_2 eBI_2 eBA_2 => some ((1 : Int32), era_2, eBI_2, eBA_2)) (nI i) (nI n) (nI s) ce (f + 1) (nI (g 3)) (nI x) SI SA = some (1, nI x, SI, SA) := by
      unfold lp_X2_readSilences_2
      rw [if_pos (show (4 : Int32) ≤ nI (g 3) by rw [li4, s_le (by omega) (by omega)]; omega)]
    by_cases q : x = n
    · subst q
      right
      refine ⟨g, G, SI, SA, MI, MA, c1, V, w, P, a, aA, by omega, g0, ?_⟩
      unfold lp_X5_readsFrontier_115
      rw [if_neg i10, P.2.2.2.1, if_neg (show ¬ nI (g 3) = 0 by rw [s_eq0 (by omega)]; omega), P.1, if_pos (show nI x ≤ nI x by rw [s_le (by omega) (by omega)]; omega)]
    · left
      refine ⟨x, 1, SI, SA, MI, MA, hx, Or.inr ⟨rfl, q⟩, c1, h12, ?_, P.1, a, aA⟩
      unfold lp_X5_readsFrontier_115 f_X5_readsSilence
      rw [if_neg i10, P.2.2.2.1, if_neg (show ¬ nI (g 3) = 0 by rw [s_eq0 (by omega)]; omega), P.1, if_neg (show ¬ nI n ≤ nI x by rw [s_le (by omega) (by omega)]; omega), if_pos (show nI (g 3) = 4 by rw [li4, s_eq (by omega) (by omega)]; omega), ibn, m115_0 _ _ _ (by omega)]
  | succ d ih =>
    intro fuel fuel' g G SI SA MI MA x hd hf hf' V w P a aA hx g0
    obtain ⟨f, rfl⟩ : ∃ f, fuel = f + 1 := ⟨fuel - 1, by omega⟩
    obtain ⟨f', rfl⟩ : ∃ f, fuel' = f + 1 := ⟨fuel' - 1, by omega⟩
    have hc' : ∀ x, x < s → ce x = MA 31 (60 * j + x) := fun x hx => by rw [aA 31 (by omega)]; exact hc x hx
    have h12 : SI 12 = -9 := by rw [V.2.2.2.2.2.1, w.2.2.2.1]; rfl
    have hss := ss V w P hj hin hs hc' hx (by omega) (fun ra BI BA => lp_X2_readSilences_2 (fun el2_2 era_2 eBI_2 eBA_2 => some ((1 : Int32), era_2, eBI_2, eBA_2)) (nI i) (nI n) (nI s) ce f (nI (g 3) + (1 : Int32)) ra BI BA)
    have q4 : ¬ (4 : Int32) ≤ nI (g 3) := by rw [li4, s_le (by omega) (by omega)]; omega
    have body : ∀ (cl : Option (Int32 × Int32 × (Nat → Int32) × (Nat → Nat → Int32))) (mo : Option (Int32 × (Nat → Int32) × (Nat → Nat → Int32))), cl = (Option.bind (f_X2_takes (nI i) (nI n) (nI x) (nI s) ce (44 : Int32) (44 : Int32)) fun r29 => if r29.1 = 0 then (some ((0 : Int32), r29.2, SI, SA)) else (Option.bind (f_X2_code (nI i) (nI n) r29.2 (nI s) ce) fun r38 => Option.bind (f_X2_kindOf r38) fun r41 => if r41 = (-9 : Int32) then (some ((0 : Int32), r29.2, SI, SA)) else (Option.bind (f_X2_takes (nI i) (nI n) (r29.2 + (1 : Int32)) (nI s) ce (49 : Int32) (57 : Int32)) fun r68 => if r68.1 = 0 then (some ((0 : Int32), r68.2, SI, SA)) else (Option.bind (f_X2_takes (nI i) (nI n) r68.2 (nI s) ce (49 : Int32) (57 : Int32)) fun r79 => if r79.1 = 0 then (some ((0 : Int32), r79.2, SI, SA)) else (Option.bind (f_X2_digitBefore (nI i) r79.2 (nI s) ce (2 : Int32)) fun r91 => Option.bind (f_X2_digitBefore (nI i) r79.2 (nI s) ce (1 : Int32)) fun r96 => Option.bind (f_X0_addSilence SI SA r41 r91 r96) fun r99 => lp_X2_readSilences_2 (fun el2_2 era_2 eBI_2 eBA_2 => some ((1 : Int32), era_2, eBI_2, eBA_2)) (nI i) (nI n) (nI s) ce f (nI (g 3) + (1 : Int32)) r79.2 r99.1 r99.2))))) → mo = (Option.bind (f_X5_readsSilence MI MA (nI (60 * j + i)) (nI n)) fun r137 => lp_X5_readsFrontier_115 km (nI (60 * j + i)) (nI n) f' r137.1 r137.2.1 r137.2.2) →
        (∃ x' r SI' SA' MI' MA', x' ≤ n ∧ (r = 0 ∨ (r = 1 ∧ x' ≠ n)) ∧ cl = some (r, nI x', SI', SA') ∧ SI' 12 = -9 ∧ mo = km 0 MI' MA' ∧ MI' 14 = nI x' ∧ ag MI0 MI' ∧ agA MA0 MA') ∨
        (∃ (g' : Nat → Nat) (G' : Nat → Nat → Nat) (SI' : Nat → Int32) (SA' : Nat → Nat → Int32) (MI' : Nat → Int32) (MA' : Nat → Nat → Int32), cl = some (1, nI n, SI', SA') ∧ VX SI' SA' g' G' ∧ NW g' G' ∧ PT MI' MA' g' G' n ∧ ag MI0 MI' ∧ agA MA0 MA' ∧ 0 < g' 3 ∧ 0 < g' 0 ∧ mo = km 1 MI' MA') := by
      intro cl mo h1 h2
      rcases hss with ⟨x', hx', c1, c2⟩ | ⟨kd, v1, v2, k1, k2, k3, k4, c1, c2⟩
      · left
        refine ⟨x', 0, SI, SA, upd MI 14 (nI x'), MA, hx', Or.inl rfl, h1.trans c1, h12, ?_, uu_s _ _ _, ag_u a (by decide) _, aA⟩
        rw [h2, c2, ibn, m115_0 _ _ _ (by omega)]
      · rw [h1, h2, c1, c2, nI_1, ibn]
        exact ih f f' (gS g) (GS G (g 3) kd v1 v2) _ _ _ _ (x + 4) (by show g 3 + 1 + d = 4; omega) (by omega) (by omega) (VX_s V kd v1 v2) (NW_s w (by omega) k1 k2 k3) (PT_s P kd v1 v2) (ag_u (ag_u a (by decide) _) (by decide) _) (agA_u (agA_u (agA_u aA (by decide) _) (by decide) _) (by decide) _) k4 g0
    by_cases q0 : g 3 = 0
    · refine body _ _ ?_ ?_
      · rw [lp_X2_readSilences_2]
        rw [if_neg q4, if_pos (show nI (g 3) ≤ 0 by rw [s_le0 (by omega)]; exact q0)]
      · rw [lp_X5_readsFrontier_115]
        rw [if_neg i10, P.2.2.2.1, if_pos (show nI (g 3) = 0 by rw [s_eq0 (by omega)]; exact q0)]
    · by_cases q : x = n
      · right
        refine ⟨g, G, SI, SA, MI, MA, ?_, V, w, q ▸ P, a, aA, by omega, g0, ?_⟩
        · rw [lp_X2_readSilences_2]
          rw [if_neg q4, if_neg (show ¬ nI (g 3) ≤ 0 by rw [s_le0 (by omega)]; exact q0), if_pos (by rw [q]), q]
        · rw [lp_X5_readsFrontier_115]
          rw [if_neg i10, P.2.2.2.1, if_neg (show ¬ nI (g 3) = 0 by rw [s_eq0 (by omega)]; exact q0), P.1, if_pos (show nI n ≤ nI x by rw [s_le (by omega) (by omega)]; omega)]
      · refine body _ _ ?_ ?_
        · rw [lp_X2_readSilences_2]
          rw [if_neg q4, if_neg (show ¬ nI (g 3) ≤ 0 by rw [s_le0 (by omega)]; exact q0), if_neg (show ¬ nI x = nI n by rw [s_eq (by omega) (by omega)]; exact q)]
        · rw [lp_X5_readsFrontier_115]
          rw [if_neg i10, P.2.2.2.1, if_neg (show ¬ nI (g 3) = 0 by rw [s_eq0 (by omega)]; exact q0), P.1, if_neg (show ¬ nI n ≤ nI x by rw [s_le (by omega) (by omega)]; omega)]
end RF
