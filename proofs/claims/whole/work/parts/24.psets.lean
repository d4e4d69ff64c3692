/-! SAID, FREES, LAWS, KINDS: sets of what may have been -/
def sN (g : Nat → Nat) (G : Nat → Nat → Nat) (s : Nat) : Nat := so (va_up g 9 s) G
theorem sN_lt (g : Nat → Nat) (G : Nat → Nat → Nat) (s : Nat) : sN g G s < 2 := so_lt _ _
def lstF (f : Nat → Nat) : Nat → Nat → Nat
  | 0, _ => 99
  | d + 1, k => if f k = 1 then k else lstF f d (k + 1)
def orI (f : Nat → Nat) : Nat → Nat → Int32 → Int32
  | 0, _, a => a
  | d + 1, k, a => orI f d (k + 1) (if f k = 1 then a ||| ((1 : Int32) <<< (nI k &&& 31)) else a)
theorem pw_le {n : Nat} (h : n ≤ 4) : 2 ^ n ≤ 16 := by
  calc 2 ^ n ≤ 2 ^ 4 := Nat.pow_le_pow_right (by decide) h
    _ = 16 := rfl
theorem pw_pos (n : Nat) : 0 < 2 ^ n := Nat.pow_pos (by decide)
theorem all_eq {n : Nat} (h : n ≤ 4) : ((1 : Int32) <<< (nI n &&& 31)) - (1 : Int32) = nI (2 ^ n - 1) := by
  rw [bit_shl (by omega), li1, pk_sub (pw_pos n)]
theorem gdc {x N : Nat} (h : x < N) (hN : N < 2147483648) : ¬ (nI x < 0 ∨ N ≤ x) := fun q => q.elim (nI_pos (by omega)) (by omega)
theorem low_nI {j : Nat} (h : j < 99) : lowI j = nI j := by unfold lowI; rw [if_neg (by omega)]
theorem low_99 : lowI 99 = -9 := rfl
section XS
variable {BI : Nat → Int32} {BA : Nat → Nat → Int32} {g : Nat → Nat} {G : Nat → Nat → Nat}
theorem x_all (V : VX BI BA g G) (w : WF g G) : f_X0_allSilences BI = some (nI (2 ^ g 3 - 1)) := by
  unfold f_X0_allSilences
  rw [V.2.1, all_eq w.2.1]
theorem x_sd (V : VX BI BA g G) (w : WF g G) (kk : Int32 → Int32 → Int32 → (Nat → Int32) → Option (Int32 × (Nat → Int32))) (N : Nat) (hN : N ≤ 16) : ∀ j fuel, j ≤ N → j < fuel → ∀ BI', (∀ v, upd BI' 9 v = upd BI 9 v) → ∃ BI'', (∀ v, upd BI'' 9 v = upd BI 9 v) ∧ lp_X4_said_48 kk BA fuel (nI (sumN (sN g G) (N - j) j)) (lowI (lstF (sN g G) (N - j) j)) (nI j + (-1)) BI' = kk (nI (sumN (sN g G) N 0)) (lowI (lstF (sN g G) N 0)) (-1) BI'' := by
  intro j
  induction j with
  | zero =>
    intro fuel hj hf BI' hB
    obtain ⟨f, rfl⟩ : ∃ f, fuel = f + 1 := ⟨fuel - 1, by omega⟩
    refine ⟨BI', hB, ?_⟩
    unfold lp_X4_said_48
    rw [if_pos (by decide)]
    rfl
  | succ j ih =>
    intro fuel hj hf BI' hB
    obtain ⟨f, rfl⟩ : ∃ f, fuel = f + 1 := ⟨fuel - 1, by omega⟩
    have h2 := sN_lt g G j
    obtain ⟨B, hB2, hI⟩ := ih f (by omega) (by omega) (upd BI 9 (nI j)) (fun v => uu_u BI 9 _ v)
    refine ⟨B, hB2, ?_⟩
    rw [pk_m1]
    unfold lp_X4_said_48
    rw [hB, x_readingsAreSo (VX_9 V j) (WF_9 w (by omega)), ibind, if_neg (nI_pos (by omega))]
    rw [show N - j = (N - (j + 1)) + 1 by omega] at hI
    simp only [sumN, lstF] at hI
    rw [← hI]
    show (if nI (sN g G j) = 0 then _ else _) = _
    rcases (show sN g G j = 0 ∨ sN g G j = 1 by omega) with c | c
    · rw [c, if_pos (show nI 0 = 0 from rfl), Nat.zero_add, if_neg (show ¬ (0 = 1) by decide)]
    · rw [c, if_neg (show ¬ nI 1 = 0 by decide), if_pos rfl, li1, s_add, Nat.add_comm 1, low_nI (by omega)]
theorem x_fr (V : VX BI BA g G) (w : WF g G) (kk : Int32 → Int32 → (Nat → Int32) → Option (Int32 × (Nat → Int32))) : ∀ d fuel k a, k + d = 10 → d < fuel → ∀ BI', (∀ v, upd BI' 11 v = upd BI 11 v) → ∃ BI'', (∀ v, upd BI'' 11 v = upd BI 11 v) ∧ lp_X4_frees_25 kk BA fuel a (nI k) BI' = kk (orI (fun v => so (va_up g 11 v) G) d k a) (nI 10) BI'' := by
  intro d
  induction d with
  | zero =>
    intro fuel k a hk hf BI' hB
    obtain ⟨f, rfl⟩ : ∃ f, fuel = f + 1 := ⟨fuel - 1, by omega⟩
    refine ⟨BI', hB, ?_⟩
    unfold lp_X4_frees_25
    rw [show k = 10 by omega]
    rfl
  | succ d ih =>
    intro fuel k a hk hf BI' hB
    obtain ⟨f, rfl⟩ : ∃ f, fuel = f + 1 := ⟨fuel - 1, by omega⟩
    have h2 := so_lt (va_up g 11 k) G
    obtain ⟨B, hB2, hI⟩ := ih f (k + 1) (if so (va_up g 11 k) G = 1 then a ||| ((1 : Int32) <<< (nI k &&& 31)) else a) (by omega) (by omega) (upd BI 11 (nI k)) (fun v => uu_u BI 11 _ v)
    refine ⟨B, hB2, ?_⟩
    unfold lp_X4_frees_25 orI
    rw [hB, x_readingsAreSo (VX_11 V k) (WF_11 w (by omega)), ibind, if_neg (by rw [li9, s_lt (by omega) (by omega)]; omega), ← hI]
    rcases (show so (va_up g 11 k) G = 0 ∨ so (va_up g 11 k) G = 1 by omega) with c | c
    · rw [c, if_pos (show nI 0 = 0 from rfl), if_neg (show ¬ (0 = 1) by decide), nI_1]
    · rw [c, if_neg (show ¬ nI 1 = 0 by decide), if_pos rfl, nI_1]
theorem x_lw (V : VX BI BA g G) (w : WF g G) (kk : Int32 → Int32 → (Nat → Int32) → Option (Int32 × (Nat → Int32))) : ∀ d fuel k a, k + d = 8 → d < fuel → ∀ BI', (∀ v, upd BI' 10 v = upd BI 10 v) → ∃ BI'', (∀ v, upd BI'' 10 v = upd BI 10 v) ∧ lp_X4_laws_25 kk BA fuel a (nI k) BI' = kk (orI (fun v => so (va_up g 10 v) G) d k a) (nI 8) BI'' := by
  intro d
  induction d with
  | zero =>
    intro fuel k a hk hf BI' hB
    obtain ⟨f, rfl⟩ : ∃ f, fuel = f + 1 := ⟨fuel - 1, by omega⟩
    refine ⟨BI', hB, ?_⟩
    unfold lp_X4_laws_25
    rw [show k = 8 by omega]
    rfl
  | succ d ih =>
    intro fuel k a hk hf BI' hB
    obtain ⟨f, rfl⟩ : ∃ f, fuel = f + 1 := ⟨fuel - 1, by omega⟩
    have h2 := so_lt (va_up g 10 k) G
    obtain ⟨B, hB2, hI⟩ := ih f (k + 1) (if so (va_up g 10 k) G = 1 then a ||| ((1 : Int32) <<< (nI k &&& 31)) else a) (by omega) (by omega) (upd BI 10 (nI k)) (fun v => uu_u BI 10 _ v)
    refine ⟨B, hB2, ?_⟩
    unfold lp_X4_laws_25 orI
    rw [hB, x_readingsAreSo (VX_10 V k) (WF_10 w (by omega)), ibind, if_neg (by rw [li7, s_lt (by omega) (by omega)]; omega), ← hI]
    rcases (show so (va_up g 10 k) G = 0 ∨ so (va_up g 10 k) G = 1 by omega) with c | c
    · rw [c, if_pos (show nI 0 = 0 from rfl), if_neg (show ¬ (0 = 1) by decide), nI_1]
    · rw [c, if_neg (show ¬ nI 1 = 0 by decide), if_pos rfl, nI_1]
theorem x_kd (V : VX BI BA g G) (w : WF g G) {x : Nat} (hx : x < g 3) (kk : Int32 → Int32 → (Nat → Nat → Int32) → Option (Int32 × (Nat → Nat → Int32))) : ∀ d fuel k a, k + d = 3 → d < fuel → ∀ BA', (∀ v, va_up BA' 4 (upd (BA' 4) x v) = va_up BA 4 (upd (BA 4) x v)) → ∃ BA'', (∀ v, va_up BA'' 4 (upd (BA'' 4) x v) = va_up BA 4 (upd (BA 4) x v)) ∧ lp_X4_kinds_28 kk BI (nI x) fuel a (nI k) BA' = kk (orI (fun v => so g (G_k G 4 x v)) d k a) (nI 3) BA'' := by
  have w3 := w.2.1
  intro d
  induction d with
  | zero =>
    intro fuel k a hk hf BA' hB
    obtain ⟨f, rfl⟩ : ∃ f, fuel = f + 1 := ⟨fuel - 1, by omega⟩
    refine ⟨BA', hB, ?_⟩
    unfold lp_X4_kinds_28
    rw [show k = 3 by omega]
    rfl
  | succ d ih =>
    intro fuel k a hk hf BA' hB
    obtain ⟨f, rfl⟩ : ∃ f, fuel = f + 1 := ⟨fuel - 1, by omega⟩
    have h2 := so_lt g (G_k G 4 x k)
    obtain ⟨B, hB2, hI⟩ := ih f (k + 1) (if so g (G_k G 4 x k) = 1 then a ||| ((1 : Int32) <<< (nI k &&& 31)) else a) (by omega) (by omega) (va_up BA 4 (upd (BA 4) x (nI k))) (fun v => by rw [vv_v, vv_s, uu_u])
    refine ⟨B, hB2, ?_⟩
    unfold lp_X4_kinds_28 orI
    rw [s_cl (by omega), hB, x_readingsAreSo (VX_4 V x k) (WF_4 w x (by omega)), ibind, if_neg (by rw [li3, s_le (by omega) (by omega)]; omega), if_neg (gdc (by omega) (by decide)), ← hI]
    rcases (show so g (G_k G 4 x k) = 0 ∨ so g (G_k G 4 x k) = 1 by omega) with c | c
    · rw [c, if_pos (show nI 0 = 0 from rfl), if_neg (show ¬ (0 = 1) by decide), nI_1]
    · rw [c, if_neg (show ¬ nI 1 = 0 by decide), if_pos rfl, nI_1]
end XS
section MS
variable {MI : Nat → Int32} {MA : Nat → Nat → Int32} {g : Nat → Nat} {G : Nat → Nat → Nat}
theorem m_all (V : VM MI MA g G) (w : WF g G) : f_X5_all MI = some (nI (2 ^ g 3 - 1)) := by
  unfold f_X5_all
  rw [V.2.1, all_eq w.2.1]
theorem or_0 (a : Int32) : a ||| (0 : Int32) = a := by
  apply Int32.toBitVec_inj.mp
  show a.toBitVec ||| (0 : Int32).toBitVec = a.toBitVec
  simp
theorem m_sd (V : VM MI MA g G) (w : WF g G) (kk : Int32 → Int32 → Int32 → (Nat → Int32) → Option (Int32 × (Nat → Int32))) : ∀ d fuel k c v, k + d = 2 ^ g 3 → d < fuel → (v < 16 ∨ v = 99) → ∀ MI', (∀ u, upd MI' 10 u = upd MI 10 u) → MI' 4 = MI 4 → ∃ MI'', (∀ u, upd MI'' 10 u = upd MI 10 u) ∧ lp_X5_said_37 kk MA fuel (nI c) (lowI v) (nI k) MI' = kk (nI (c + sumN (sN g G) d k)) (lowI (if v = 99 then lstF (sN g G) d k else v)) (nI (2 ^ g 3)) MI'' := by
  have hp := pw_le w.2.1
  have hp0 := pw_pos (g 3)
  intro d
  induction d with
  | zero =>
    intro fuel k c v hk hf hv MI' hM h4
    obtain ⟨f, rfl⟩ : ∃ f, fuel = f + 1 := ⟨fuel - 1, by omega⟩
    refine ⟨MI', hM, ?_⟩
    unfold lp_X5_said_37
    have ha : f_X5_all MI' = some (nI (2 ^ g 3 - 1)) := by unfold f_X5_all; rw [h4, V.2.1, all_eq w.2.1]
    rw [ha, ibind, if_pos (by rw [s_lt (by omega) (by omega)]; omega), show k = 2 ^ g 3 by omega]
    have e : (if v = 99 then lstF (sN g G) 0 (2 ^ g 3) else v) = v := by
      show (if v = 99 then 99 else v) = v
      split <;> omega
    rw [e]
    rfl
  | succ d ih =>
    intro fuel k c v hk hf hv MI' hM h4
    obtain ⟨f, rfl⟩ : ∃ f, fuel = f + 1 := ⟨fuel - 1, by omega⟩
    have h2 := sN_lt g G k
    have ha : f_X5_all MI' = some (nI (2 ^ g 3 - 1)) := by unfold f_X5_all; rw [h4, V.2.1, all_eq w.2.1]
    obtain ⟨B, hB2, hI⟩ := ih f (k + 1) (c + sN g G k) (if v = 99 then (if sN g G k = 1 then k else 99) else v) (by omega) (by omega) (by split <;> (try split) <;> omega) (upd MI 10 (nI k)) (fun v => uu_u MI 10 _ v) (by rw [uu_n _ _ (by decide)])
    refine ⟨B, hB2, ?_⟩
    unfold lp_X5_said_37
    rw [ha, ibind, if_neg (by rw [s_lt (by omega) (by omega)]; omega), hM, m_areSo (VM_9 V k) (WF_9 w (by omega)), ibind]
    show (if nI (sN g G k) = 0 then _ else _) = _
    simp only [sumN, lstF]
    rcases (show sN g G k = 0 ∨ sN g G k = 1 by omega) with q | q
    · rw [q] at hI ⊢
      rw [if_pos (show nI 0 = 0 from rfl), nI_1]
      simp only [Nat.add_zero, Nat.zero_add, if_neg (show ¬ (0 = 1) by decide)] at hI ⊢
      have e : (if v = 99 then 99 else v) = v := by split <;> omega
      rw [e] at hI
      exact hI
    · rw [q] at hI ⊢
      rw [if_neg (show ¬ nI 1 = 0 by decide), nI_1, nI_1]
      simp only [if_pos] at hI ⊢
      rw [show c + (1 + sumN (sN g G) d (k + 1)) = c + 1 + sumN (sN g G) d (k + 1) by omega]
      by_cases hv9 : v = 99
      · subst hv9
        rw [if_neg (show ¬ (0 : Int32) ≤ lowI 99 by decide)]
        rw [if_pos rfl, low_nI (by omega), if_neg (show ¬ k = 99 by omega)] at hI
        rw [if_pos rfl]
        exact hI
      · rw [if_pos (show (0 : Int32) ≤ lowI v by rw [low_nI (by omega)]; exact nI_pos' (by omega))]
        rw [if_neg hv9, if_neg hv9] at hI
        rw [if_neg hv9]
        exact hI
theorem m_fr (V : VM MI MA g G) (w : WF g G) (kk : Int32 → Int32 → (Nat → Int32) → Option (Int32 × (Nat → Int32))) : ∀ d fuel k a, k + d = 10 → d < fuel → ∀ MI', (∀ v, upd MI' 11 v = upd MI 11 v) → ∃ MI'', (∀ v, upd MI'' 11 v = upd MI 11 v) ∧ lp_X5_frees_19 kk MA fuel a (nI k) MI' = kk (orI (fun v => so (va_up g 11 v) G) d k a) (nI 10) MI'' := by
  intro d
  induction d with
  | zero =>
    intro fuel k a hk hf BI' hB
    obtain ⟨f, rfl⟩ : ∃ f, fuel = f + 1 := ⟨fuel - 1, by omega⟩
    refine ⟨BI', hB, ?_⟩
    unfold lp_X5_frees_19
    rw [show k = 10 by omega]
    rfl
  | succ d ih =>
    intro fuel k a hk hf BI' hB
    obtain ⟨f, rfl⟩ : ∃ f, fuel = f + 1 := ⟨fuel - 1, by omega⟩
    have h2 := so_lt (va_up g 11 k) G
    obtain ⟨B, hB2, hI⟩ := ih f (k + 1) (if so (va_up g 11 k) G = 1 then a ||| ((1 : Int32) <<< (nI k &&& 31)) else a) (by omega) (by omega) (upd MI 11 (nI k)) (fun v => uu_u MI 11 _ v)
    refine ⟨B, hB2, ?_⟩
    unfold lp_X5_frees_19 orI
    rw [hB, m_areSo (VM_11 V k) (WF_11 w (by omega)), ibind, if_neg (by rw [show (10 : Int32) = nI 10 from rfl, s_le (by omega) (by omega)]; omega), ← hI]
    rcases (show so (va_up g 11 k) G = 0 ∨ so (va_up g 11 k) G = 1 by omega) with c | c
    · rw [c, if_pos (show nI 0 = 0 from rfl), if_neg (show ¬ (0 = 1) by decide), nI_1, or_0]
    · rw [c, if_neg (show ¬ nI 1 = 0 by decide), if_pos rfl, nI_1]
theorem m_lw (V : VM MI MA g G) (w : WF g G) (kk : Int32 → Int32 → (Nat → Int32) → Option (Int32 × (Nat → Int32))) : ∀ d fuel k a, k + d = 8 → d < fuel → ∀ MI', (∀ v, upd MI' 12 v = upd MI 12 v) → ∃ MI'', (∀ v, upd MI'' 12 v = upd MI 12 v) ∧ lp_X5_laws_19 kk MA fuel a (nI k) MI' = kk (orI (fun v => so (va_up g 10 v) G) d k a) (nI 8) MI'' := by
  intro d
  induction d with
  | zero =>
    intro fuel k a hk hf BI' hB
    obtain ⟨f, rfl⟩ : ∃ f, fuel = f + 1 := ⟨fuel - 1, by omega⟩
    refine ⟨BI', hB, ?_⟩
    unfold lp_X5_laws_19
    rw [show k = 8 by omega]
    rfl
  | succ d ih =>
    intro fuel k a hk hf BI' hB
    obtain ⟨f, rfl⟩ : ∃ f, fuel = f + 1 := ⟨fuel - 1, by omega⟩
    have h2 := so_lt (va_up g 10 k) G
    obtain ⟨B, hB2, hI⟩ := ih f (k + 1) (if so (va_up g 10 k) G = 1 then a ||| ((1 : Int32) <<< (nI k &&& 31)) else a) (by omega) (by omega) (upd MI 12 (nI k)) (fun v => uu_u MI 12 _ v)
    refine ⟨B, hB2, ?_⟩
    unfold lp_X5_laws_19 orI
    rw [hB, m_areSo (VM_10 V k) (WF_10 w (by omega)), ibind, if_neg (by rw [li8, s_le (by omega) (by omega)]; omega), ← hI]
    rcases (show so (va_up g 10 k) G = 0 ∨ so (va_up g 10 k) G = 1 by omega) with c | c
    · rw [c, if_pos (show nI 0 = 0 from rfl), if_neg (show ¬ (0 = 1) by decide), nI_1, or_0]
    · rw [c, if_neg (show ¬ nI 1 = 0 by decide), if_pos rfl, nI_1]
theorem m_kd (V : VM MI MA g G) (w : WF g G) {x : Nat} (hx : x < g 3) (kk : Int32 → Int32 → (Nat → Nat → Int32) → Option (Int32 × (Nat → Nat → Int32))) : ∀ d fuel k a, k + d = 3 → d < fuel → ∀ MA', (∀ v, va_up MA' 5 (upd (MA' 5) x v) = va_up MA 5 (upd (MA 5) x v)) → ∃ MA'', (∀ v, va_up MA'' 5 (upd (MA'' 5) x v) = va_up MA 5 (upd (MA 5) x v)) ∧ lp_X5_kinds_22 kk MI (nI x) fuel a (nI k) MA' = kk (orI (fun v => so g (G_k G 4 x v)) d k a) (nI 3) MA'' := by
  have w3 := w.2.1
  intro d
  induction d with
  | zero =>
    intro fuel k a hk hf BA' hB
    obtain ⟨f, rfl⟩ : ∃ f, fuel = f + 1 := ⟨fuel - 1, by omega⟩
    refine ⟨BA', hB, ?_⟩
    unfold lp_X5_kinds_22
    rw [show k = 3 by omega]
    rfl
  | succ d ih =>
    intro fuel k a hk hf BA' hB
    obtain ⟨f, rfl⟩ : ∃ f, fuel = f + 1 := ⟨fuel - 1, by omega⟩
    have h2 := so_lt g (G_k G 4 x k)
    obtain ⟨B, hB2, hI⟩ := ih f (k + 1) (if so g (G_k G 4 x k) = 1 then a ||| ((1 : Int32) <<< (nI k &&& 31)) else a) (by omega) (by omega) (va_up MA 5 (upd (MA 5) x (nI k))) (fun v => by rw [vv_v, vv_s, uu_u])
    refine ⟨B, hB2, ?_⟩
    unfold lp_X5_kinds_22 orI
    rw [s_cl (by omega), hB, m_areSo (VM_4 V x k) (WF_4 w x (by omega)), ibind, if_neg (by rw [li3, s_le (by omega) (by omega)]; omega), if_neg (gdc (by omega) (by decide)), ← hI]
    rcases (show so g (G_k G 4 x k) = 0 ∨ so g (G_k G 4 x k) = 1 by omega) with c | c
    · rw [c, if_pos (show nI 0 = 0 from rfl), if_neg (show ¬ (0 = 1) by decide), nI_1, or_0]
    · rw [c, if_neg (show ¬ nI 1 = 0 by decide), if_pos rfl, nI_1]
end MS
