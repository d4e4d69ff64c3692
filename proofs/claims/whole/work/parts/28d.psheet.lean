/-! the sheets -/
def bz (f z : Nat → Int32) (a b : Nat) : Nat → Int32 := fun q => if a ≤ q ∧ q < b then f q else z q
theorem bz_end (f z : Nat → Int32) (b : Nat) : bz f z b b = z := by
  funext q
  unfold bz
  rw [if_neg (by omega)]
theorem bz_step (f z : Nat → Int32) {a b : Nat} (h : a < b) : bz f (upd z a (f a)) (a + 1) b = bz f z a b := by
  funext q
  unfold bz upd
  by_cases e : q = a
  · subst e
    rw [if_neg (by omega), if_pos rfl, if_pos (by omega)]
  · rw [if_neg e]
    by_cases q1 : a ≤ q ∧ q < b
    · rw [if_pos q1, if_pos (by omega)]
    · rw [if_neg q1, if_neg (by omega)]
theorem bz_o (f z : Nat → Int32) {a b q : Nat} (h : ¬ (a ≤ q ∧ q < b)) : bz f z a b q = z q := if_neg h
theorem bz_i (f z : Nat → Int32) {a b q : Nat} (h : a ≤ q ∧ q < b) : bz f z a b q = f q := if_pos h
theorem x_fl (kk : Int32 → (Nat → Int32) → Option (Nat → Int32)) : ∀ d fuel x AF, x + d = 60 → d < fuel → lp_J7_fill_53178_5 kk 60 0 fuel (nI x) AF = kk (nI 60) (bz (fun _ => 0) AF x 60) := by
  intro d
  induction d with
  | zero =>
    intro fuel x AF hx hf
    obtain ⟨f, rfl⟩ : ∃ f, fuel = f + 1 := ⟨fuel - 1, by omega⟩
    unfold lp_J7_fill_53178_5
    rw [show x = 60 by omega, bz_end, if_pos (by decide)]
  | succ d ih =>
    intro fuel x AF hx hf
    obtain ⟨f, rfl⟩ : ∃ f, fuel = f + 1 := ⟨fuel - 1, by omega⟩
    unfold lp_J7_fill_53178_5
    rw [show Int32.ofNat 60 = nI 60 from rfl, if_neg (show ¬ nI 60 ≤ nI x by rw [s_le (by omega) (by omega)]; omega), s_cl (by omega), if_neg (gdc (show x < 60 by omega) (by decide)), nI_1, ih f (x + 1) _ (by omega) (by omega), ← bz_step (fun _ => 0) AF (show x < 60 by omega)]
theorem x_fill (AF : Nat → Int32) : f_J7_fill_53178 60 AF 0 = some (bz (fun _ => 0) AF 0 60) := by
  unfold f_J7_fill_53178
  generalize hfu : 1000 = fu
  exact x_fl _ 60 fu 0 AF (by omega) (by omega)
section SH
variable {BI : Nat → Int32} {BA : Nat → Nat → Int32} {MI : Nat → Int32} {MA : Nat → Nat → Int32} {g : Nat → Nat} {G : Nat → Nat → Nat} {LN SZ : Nat → Int32} {CE : Nat → Nat → Int32} {tr fa : Int32}
theorem m_sh {j s : Nat} (hj : j < 4) (hs : s ≤ 60) (kk : Int32 → (Nat → Nat → Int32) → Option (Int32 × (Nat → Int32) × (Nat → Nat → Int32))) : ∀ d fuel x z, x + d = s → d < fuel → lp_X5_sheet_65 kk (nI j) (nI s) fuel (nI x) (va_up MA 31 z) = kk (nI s) (va_up MA 31 (bz (fun _ => 0) z (60 * j + x) (60 * j + s))) := by
  intro d
  induction d with
  | zero =>
    intro fuel x z hx hf
    obtain ⟨f, rfl⟩ : ∃ f, fuel = f + 1 := ⟨fuel - 1, by omega⟩
    unfold lp_X5_sheet_65
    rw [show x = s by omega, bz_end, if_pos (by rw [s_le (by omega) (by omega)]; omega)]
  | succ d ih =>
    intro fuel x z hx hf
    obtain ⟨f, rfl⟩ : ∃ f, fuel = f + 1 := ⟨fuel - 1, by omega⟩
    unfold lp_X5_sheet_65
    rw [if_neg (show ¬ nI s ≤ nI x by rw [s_le (by omega) (by omega)]; omega), li60, s_mul, s_add, s_cl (by omega), if_neg (gdc (show 60 * j + x < 240 by omega) (by decide)), nI_1, vv_s, vv_v, ih f (x + 1) _ (by omega) (by omega), ← Nat.add_assoc, bz_step (fun _ => 0) z (show 60 * j + x < 60 * j + s by omega)]
theorem m_cp1 {j p n : Nat} (hj : j < 4) (hp : p + n ≤ 60) (kk : Int32 → (Nat → Nat → Int32) → Option (Int32 × (Nat → Int32) × (Nat → Nat → Int32))) : ∀ d fuel x z, x + d = n → d < fuel → lp_X5_copy_107 kk (nI j) (nI p) (nI n) fuel (nI x) (va_up MA 32 z) = kk (nI n) (va_up MA 32 (bz (fun q => MA 31 (60 * j + p + q)) z x n)) := by
  intro d
  induction d with
  | zero =>
    intro fuel x z hx hf
    obtain ⟨f, rfl⟩ : ∃ f, fuel = f + 1 := ⟨fuel - 1, by omega⟩
    unfold lp_X5_copy_107
    rw [show x = n by omega, bz_end, if_pos (by rw [s_le (by omega) (by omega)]; omega)]
  | succ d ih =>
    intro fuel x z hx hf
    obtain ⟨f, rfl⟩ : ∃ f, fuel = f + 1 := ⟨fuel - 1, by omega⟩
    unfold lp_X5_copy_107
    rw [if_neg (show ¬ nI n ≤ nI x by rw [s_le (by omega) (by omega)]; omega), li60, s_mul, s_add, s_add, s_cl (show 60 * j + p + x < 2147483648 by omega), s_cl (show x < 2147483648 by omega), if_neg (gdc (show 60 * j + p + x < 240 by omega) (by decide)), if_neg (gdc (show x < 60 by omega) (by decide)), nI_1, vv_s, vv_v, vv_n _ _ (show (31 : Nat) ≠ 32 by decide), ih f (x + 1) _ (by omega) (by omega), bz_step (fun q => MA 31 (60 * j + p + q)) z (show x < n by omega)]
theorem m_cp2 {j p n : Nat} (hj : j < 4) (hp : p + n ≤ 60) (kk : Int32 → (Nat → Nat → Int32) → Option (Int32 × (Nat → Int32) × (Nat → Nat → Int32))) : ∀ d fuel x z, x + d = n → d < fuel → lp_X5_copy_144 kk (nI j) (nI p) (nI n) fuel (nI x) (va_up MA 31 z) = kk (nI n) (va_up MA 31 (bz (fun q => MA 32 (q - (60 * j + p))) z (60 * j + p + x) (60 * j + p + n))) := by
  intro d
  induction d with
  | zero =>
    intro fuel x z hx hf
    obtain ⟨f, rfl⟩ : ∃ f, fuel = f + 1 := ⟨fuel - 1, by omega⟩
    unfold lp_X5_copy_144
    rw [show x = n by omega, bz_end, if_pos (by rw [s_le (by omega) (by omega)]; omega)]
  | succ d ih =>
    intro fuel x z hx hf
    obtain ⟨f, rfl⟩ : ∃ f, fuel = f + 1 := ⟨fuel - 1, by omega⟩
    unfold lp_X5_copy_144
    have hb := bz_step (fun q => MA 32 (q - (60 * j + p))) z (show 60 * j + p + x < 60 * j + p + n by omega)
    rw [show (60 * j + p + x) - (60 * j + p) = x by omega] at hb
    rw [if_neg (show ¬ nI n ≤ nI x by rw [s_le (by omega) (by omega)]; omega), li60, s_mul, s_add, s_add, s_cl (show 60 * j + p + x < 2147483648 by omega), s_cl (show x < 2147483648 by omega), if_neg (gdc (show 60 * j + p + x < 240 by omega) (by decide)), if_neg (gdc (show x < 60 by omega) (by decide)), nI_1, vv_s, vv_v, vv_n _ _ (show (32 : Nat) ≠ 31 by decide), ih f (x + 1) _ (by omega) (by omega), ← Nat.add_assoc, hb]
theorem x_ref (a1 a2 : Int32) : (∃ j l, j < 4 ∧ l ≤ 2 ∧ a1 = nI j ∧ a2 = nI l ∧ f_X4_refusalOfRow a1 a2 = some 0 ∧ f_X5_noSheet a1 = some 0 ∧ f_X5_in a2.toInt64 0 2 = some 1) ∨ (f_X4_refusalOfRow a1 a2 = some (-1) ∧ f_X5_noSheet a1 = some 1) ∨ (f_X4_refusalOfRow a1 a2 = some (-2) ∧ f_X5_noSheet a1 = some 0 ∧ f_X5_in a2.toInt64 0 2 = some 0) := by
  unfold f_X4_refusalOfRow
  rcases hx a1 with ⟨j, hj, rfl, e1, e2⟩ | ⟨e1, e2⟩
  · rcases wi a2 (N := 2) (by decide) with ⟨l, hl, rfl, e3, e4⟩ | ⟨e3, e4⟩
    · left
      refine ⟨j, l, hj, hl, rfl, rfl, ?_, e2, e4⟩
      rw [e1, li2, e3]; rfl
    · right; right
      refine ⟨?_, e2, e4⟩
      rw [e1, li2, e3]; rfl
  · right; left
    refine ⟨?_, e2⟩
    rw [e1]; rfl
theorem nc {s : Nat} (hs : s ≤ 60) (a : Int32) : (∃ i, i < s ∧ a = nI i ∧ f_X1_hasCell (nI s) a = some 1 ∧ f_X5_in a.toInt64 0 ((nI s).toInt64 - 1) = some 1) ∨ (f_X1_hasCell (nI s) a = some 0 ∧ f_X5_in a.toInt64 0 ((nI s).toInt64 - 1) = some 0) := by
  have h1 : f_X1_hasCell (nI s) a = some (if 0 ≤ a.toInt ∧ a.toInt < s then 1 else 0) := x_hasL a (by omega)
  have h2 : f_X5_in a.toInt64 0 ((nI s).toInt64 - 1) = some (if 0 ≤ a.toInt ∧ a.toInt < s then 1 else 0) := by
    rw [nI_l (by omega), m_in, lN_m1 (by omega)]
    by_cases q : 0 ≤ a.toInt ∧ a.toInt < s
    · rw [if_pos q, if_pos (by omega)]
    · rw [if_neg q, if_neg (by omega)]
  rw [h1, h2]
  by_cases q : 0 ≤ a.toInt ∧ a.toInt < s
  · left
    rw [if_pos q]
    obtain ⟨i, hi, e⟩ := toI_ex q.1 q.2
    exact ⟨i, hi, e, rfl, rfl⟩
  · right
    rw [if_neg q]
    exact ⟨rfl, rfl⟩
theorem e_sheet (h : RLw tr fa BI BA LN SZ CE MI MA) (a1 a2 a3 : Int32) : ∃ r fa' LN' SZ' CE' MI' MA', f_X4_sheet LN SZ CE a1 a2 a3 = some (r, fa', LN', SZ', CE') ∧ f_X5_sheet MI MA a1 a2 a3 = some (r, MI', MA') ∧ RLw tr fa' BI BA LN' SZ' CE' MI' MA' := by
  obtain ⟨g, G, R, S, t, f⟩ := h
  unfold f_X4_sheet f_X5_sheet jb_X4_sheet_22
  rcases x_ref a1 a2 with ⟨j, l, hj, hl, rfl, rfl, e1, e2, e3⟩ | ⟨e1, e2⟩ | ⟨e1, e2, e3⟩
  · rw [e1, e2, e3, s_cl (show j < 2147483648 by omega)]
    simp only [ibn, ↓reduceIte, i10, if_neg (gdc hj (by decide)), if_neg (show ¬ (-2 : Int32) = 0 by decide)]
    by_cases q1 : a3 ≤ 60
    · simp only [if_pos q1]
      by_cases q2 : 0 ≤ a3
      · simp only [if_pos q2]
        obtain ⟨s, hs, rfl⟩ : ∃ s, s ≤ 60 ∧ a3 = nI s := nI_of2 (M := 60) (n := 60) rfl (fun h => nle h q2) q1
        unfold f_X1_begin
        rw [x_fill]
        generalize hfu : 1000 = fu
        have hm := m_sh (MA := va_up (va_up MA 29 (upd (MA 29) j (nI s))) 30 (upd ((va_up MA 29 (upd (MA 29) j (nI s))) 30) j (nI l))) hj hs (fun el4_65 eMA_65 => Option.bind (f_X5_refused MI (1 : Int32)) fun r92 => some (r92.1, r92.2, eMA_65)) s fu 0 ((va_up (va_up MA 29 (upd (MA 29) j (nI s))) 30 (upd ((va_up MA 29 (upd (MA 29) j (nI s))) 30) j (nI l))) 31) (by omega) (by omega)
        rw [vv_self, show nI 0 = (0 : Int32) from rfl] at hm
        rw [hm]
        refine ⟨_, _, _, _, _, _, _, rfl, rfl, ⟨g, G, RB_f ⟨R.1, VM_o (VM_o (VM_o R.2.1 (Or.inr (Or.inl rfl)) _) (Or.inr (Or.inr (Or.inl rfl))) _) (Or.inr (Or.inr (Or.inr (Or.inl rfl)))) _, R.2.2⟩ 0, ?_, (uu_n MI (0 : Int32) (show (33 : Nat) ≠ 0 by decide)).trans t, uu_s MI 0 (0 : Int32)⟩⟩
        intro j' hj'
        rw [vv_s, vv_n _ _ (show (29 : Nat) ≠ 31 by decide), vv_n _ _ (show (29 : Nat) ≠ 30 by decide), vv_s, vv_n _ _ (show (30 : Nat) ≠ 31 by decide), vv_s, vv_n _ _ (show (31 : Nat) ≠ 30 by decide), vv_n _ _ (show (31 : Nat) ≠ 29 by decide), vv_n _ _ (show (30 : Nat) ≠ 29 by decide)]
        by_cases e : j' = j
        · subst e
          right
          refine ⟨l, s, hl, hs, uu_s _ _ _, uu_s _ _ _, uu_s _ _ _, uu_s _ _ _, fun i hi => ?_⟩
          rw [vv_s, bz_i _ _ (by omega)]
          exact bz_i (fun _ => 0) (CE j') (show 0 ≤ i ∧ i < 60 by omega)
        · rw [uu_n _ _ e, uu_n _ _ e, uu_n _ _ e, uu_n _ _ e, vv_n _ _ e]
          rcases S j' hj' with h | ⟨l', s', h1, h2, h3, h4, h5, h6, h7⟩
          · exact Or.inl h
          · right
            refine ⟨l', s', h1, h2, h3, h4, h5, h6, fun i hi => ?_⟩
            rw [bz_o _ _ (by omega), h7 i hi]
      · simp only [if_neg q2]
        exact ⟨_, _, _, _, _, _, _, rfl, rfl, RL_f R S t 4⟩
    · simp only [if_neg q1]
      exact ⟨_, _, _, _, _, _, _, rfl, rfl, RL_f R S t 0⟩
  · rw [e1, e2]
    exact ⟨_, _, _, _, _, _, _, rfl, rfl, RL_f R S t 0⟩
  · rw [e1, e2, e3]
    exact ⟨_, _, _, _, _, _, _, rfl, rfl, RL_f R S t 0⟩
theorem e_lose (h : RLw tr fa BI BA LN SZ CE MI MA) (a1 : Int32) : ∃ r LN' SZ' MA', f_X4_lose LN SZ a1 = some (r, LN', SZ') ∧ f_X5_lose MA a1 = some (r, MA') ∧ RLw tr fa BI BA LN' SZ' CE MI MA' := by
  have H := h
  obtain ⟨g, G, R, S, t, f⟩ := h
  unfold f_X4_lose f_X5_lose jb_X5_lose_23 f_X1_hasRow f_X1_drop
  rcases hx a1 with ⟨j, hj, rfl, e1, e2⟩ | ⟨e1, e2⟩
  · rw [e1, e2, s_cl (show j < 2147483648 by omega)]
    simp only [ibn, ↓reduceIte, i10, if_neg (gdc hj (by decide))]
    rcases S j hj with ⟨h1, h2, h3⟩ | ⟨l, s, h1, h2, h3, h4, h5, h6, h7⟩
    · rw [h1, h3, if_pos rfl, if_neg (by decide)]
      refine ⟨_, _, _, _, rfl, rfl, ?_⟩
      rw [← h3, uu_self, vv_self]
      exact H
    · rw [h3, h5, if_neg (fun q => (s_m1 (by omega)).mp q), if_pos (nI_pos' (by omega))]
      refine ⟨_, _, _, _, rfl, rfl, ⟨g, G, ⟨R.1, VM_o R.2.1 (Or.inr (Or.inl rfl)) _, R.2.2⟩, ?_, t, f⟩⟩
      intro j' hj'
      rw [vv_s, vv_n _ _ (show (30 : Nat) ≠ 29 by decide), vv_n _ _ (show (31 : Nat) ≠ 29 by decide)]
      by_cases e : j' = j
      · subst e
        left
        exact ⟨uu_s _ _ _, uu_s _ _ _, uu_s _ _ _⟩
      · rw [uu_n _ _ e, uu_n _ _ e, uu_n _ _ e]
        exact S j' hj'
  · rw [e1, e2]
    exact ⟨_, _, _, _, rfl, rfl, H⟩
theorem e_put (h : RLw tr fa BI BA LN SZ CE MI MA) (a1 a2 a3 : Int32) : ∃ r fa' CE' MI' MA', f_X4_put LN SZ CE a1 a2 a3 = some (r, fa', CE') ∧ f_X5_put MI MA a1 a2 a3 = some (r, MI', MA') ∧ RLw tr fa' BI BA LN SZ CE' MI' MA' := by
  obtain ⟨g, G, R, S, t, f⟩ := h
  unfold f_X4_put f_X5_put f_X1_hasRow f_X5_noCell
  rcases hx a1 with ⟨j, hj, rfl, e1, e2⟩ | ⟨e1, e2⟩
  · rw [e1, e2, s_cl (show j < 2147483648 by omega)]
    simp only [ibn, ↓reduceIte, i10, if_neg (gdc hj (by decide))]
    rcases S j hj with ⟨h1, h2, h3⟩ | ⟨l, s, h1, h2, h3, h4, h5, h6, h7⟩
    · rw [h1, h3, if_pos rfl, if_neg (show ¬ (0 : Int32) ≤ -1 by decide)]
      exact ⟨_, _, _, _, _, rfl, rfl, RL_f R S t 1⟩
    · rw [h3, h4, h5, h6, if_neg (fun q => (s_m1 (by omega)).mp q), if_pos (nI_pos' (by omega))]
      rcases nc h2 a2 with ⟨i, hi, rfl, c1, c2⟩ | ⟨c1, c2⟩
      · rw [c1, c2, li60, s_mul, s_add, s_cl (show i < 2147483648 by omega), s_cl (show 60 * j + i < 2147483648 by omega)]
        simp only [ibn, ↓reduceIte, i10, if_neg (gdc (show i < 60 by omega) (by decide)), if_neg (gdc (show 60 * j + i < 240 by omega) (by decide)), if_pos (show (0 : Int32) ≤ 0 by decide)]
        have key : ∀ v : Int32, RLw tr 0 BI BA LN SZ (va_up CE j (upd (CE j) i v)) (upd MI 0 0) (va_up MA 31 (upd (MA 31) (60 * j + i) v)) := by
          intro v
          refine ⟨g, G, RB_f ⟨R.1, VM_o R.2.1 (Or.inr (Or.inr (Or.inr (Or.inl rfl)))) _, R.2.2⟩ 0, ?_, by rw [uu_n _ _ (by decide), t], uu_s _ _ _⟩
          intro j' hj'
          rw [vv_s, vv_n _ _ (show (29 : Nat) ≠ 31 by decide), vv_n _ _ (show (30 : Nat) ≠ 31 by decide)]
          rcases S j' hj' with h | ⟨l', s', k1, k2, k3, k4, k5, k6, k7⟩
          · exact Or.inl h
          · right
            refine ⟨l', s', k1, k2, k3, k4, k5, k6, fun x hx => ?_⟩
            by_cases e : j' = j
            · subst e
              rw [vv_s]
              by_cases ex : x = i
              · subst ex
                rw [uu_s, uu_s]
              · rw [uu_n _ _ ex, uu_n _ _ (by omega), k7 x hx]
            · rw [vv_n _ _ e, uu_n _ _ (by omega), k7 x hx]
        unfold f_X1_cut
        simp only [show (0 : Int32) = nI 0 from rfl, show (1 : Int32) = nI 1 from rfl, s_eq (show l < 2147483648 by omega) (show 0 < 2147483648 by decide), s_eq (show l < 2147483648 by omega) (show 1 < 2147483648 by decide)]
        rcases (show l = 0 ∨ l = 1 ∨ l = 2 by omega) with rfl | rfl | rfl
        · exact ⟨_, _, _, _, _, rfl, rfl, key _⟩
        · exact ⟨_, _, _, _, _, rfl, rfl, key _⟩
        · exact ⟨_, _, _, _, _, rfl, rfl, key _⟩
      · rw [c1, c2]
        exact ⟨_, _, _, _, _, rfl, rfl, RL_f R S t 3⟩
  · rw [e1, e2]
    exact ⟨_, _, _, _, _, rfl, rfl, RL_f R S t 0⟩
theorem e_cell (h : RLw tr fa BI BA LN SZ CE MI MA) (a1 a2 a3 : Int32) : ∃ r fa' MI', f_X4_cell LN SZ CE a1 a2 a3 = some (r, fa') ∧ f_X5_cell MI MA a1 a2 a3 = some (r, MI') ∧ RLw tr fa' BI BA LN SZ CE MI' MA := by
  obtain ⟨g, G, R, S, t, f⟩ := h
  unfold f_X4_cell f_X5_cell f_X1_faultAs f_X1_hasRow jb_X5_cell_53 f_X5_noCell jb_X4_cell_46 f_X5_failedLong f_X5_lost
  rcases x_ref a1 a3 with ⟨j, l', hj, hl, rfl, rfl, e1, e2, e3⟩ | ⟨e1, e2⟩ | ⟨e1, e2, e3⟩
  · rw [e1, e2, e3, s_cl (show j < 2147483648 by omega)]
    simp only [ibn, ↓reduceIte, i10, if_neg (gdc hj (by decide))]
    rcases S j hj with ⟨h1, h2, h3⟩ | ⟨l, s, h1, h2, h3, h4, h5, h6, h7⟩
    · rw [h1, h3]
      refine ⟨-9223372036854775808, 1, upd MI 0 1, rfl, ?_, RL_f R S t 1⟩
      rw [if_pos (by decide), if_neg (show ¬ (0 : Int32) ≤ -1 by decide), ibn, if_neg (by decide), ibn, uu_u]
    · rw [h3, h4, h5, h6, if_neg (fun q => (s_m1 (by omega)).mp q), if_pos (nI_pos' (show s < 2147483648 by omega)), if_neg (nI_pos (show s < 2147483648 by omega))]
      simp only [ibn, ↓reduceIte, i10]
      by_cases q : nI l = nI l'
      · rw [if_pos q, if_pos q]
        simp only [ibn, ↓reduceIte, i10]
        rcases nc h2 a2 with ⟨i, hi, rfl, c1, c2⟩ | ⟨c1, c2⟩
        · rw [c1, c2, li60, s_mul, s_add, s_cl (show i < 2147483648 by omega), s_cl (show 60 * j + i < 2147483648 by omega), h7 i hi]
          simp only [ibn, ↓reduceIte, i10, if_neg (gdc (show i < 60 by omega) (by decide)), if_neg (gdc (show 60 * j + i < 240 by omega) (by decide)), if_pos (show (0 : Int32) ≤ 0 by decide)]
          exact ⟨_, _, _, rfl, rfl, RL_f R S t 0⟩
        · rw [c1, c2]
          refine ⟨-9223372036854775808, 3, upd MI 0 3, rfl, ?_, RL_f R S t 3⟩
          simp only [ibn, ↓reduceIte, if_neg (show ¬ (3 : Int32) ≤ 0 by decide), uu_u]
      · rw [if_neg q, if_neg q]
        refine ⟨-9223372036854775808, 2, upd MI 0 2, rfl, ?_, RL_f R S t 2⟩
        rw [uu_u]
  · rw [e1, e2]
    exact ⟨_, _, _, rfl, rfl, RL_f R S t 0⟩
  · rw [e1, e2, e3]
    exact ⟨_, _, _, rfl, rfl, RL_f R S t 0⟩
theorem e_copy (h : RLw tr fa BI BA LN SZ CE MI MA) (a1 a2 a3 a4 a5 : Int32) : ∃ r fa' CE' MI' MA', f_X4_copy LN SZ CE a1 a2 a3 a4 a5 = some (r, fa', CE') ∧ f_X5_copy MI MA a1 a2 a3 a4 a5 = some (r, MI', MA') ∧ RLw tr fa' BI BA LN SZ CE' MI' MA' := by
  obtain ⟨g, G, R, S, t, f⟩ := h
  unfold f_X4_copy f_X5_copy f_X1_hasRow
  rcases hx a1 with ⟨j, hj, rfl, e1, e2⟩ | ⟨e1, e2⟩
  · rcases hx a3 with ⟨k, hk, rfl, e3, e4⟩ | ⟨e3, e4⟩
    · rw [e1, e2, e3, e4, s_cl (show j < 2147483648 by omega), s_cl (show k < 2147483648 by omega)]
      simp only [ibn, ↓reduceIte, i10, if_neg (gdc hj (by decide)), if_neg (gdc hk (by decide))]
      rcases S j hj with ⟨h1, h2, h3⟩ | ⟨l, s, h1, h2, h3, h4, h5, h6, h7⟩
      · rw [h1, h3, if_pos rfl, if_pos (show (-1 : Int32) < 0 by decide)]
        exact ⟨_, _, _, _, _, rfl, rfl, RL_f R S t 1⟩
      · rw [h3, h4, h5, h6, if_neg (fun q => (s_m1 (by omega)).mp q), if_neg (nI_pos (show s < 2147483648 by omega))]
        simp only [ibn, ↓reduceIte, i10]
        rcases S k hk with ⟨k1, k2, k3⟩ | ⟨l', s', k1, k2, k3, k4, k5, k6, k7⟩
        · rw [k1, k3, if_pos rfl, if_neg (show ¬ (0 : Int32) ≤ -1 by decide)]
          exact ⟨_, _, _, _, _, rfl, rfl, RL_f R S t 1⟩
        · rw [k3, k4, k5, k6, if_neg (fun q => (s_m1 (by omega)).mp q), if_pos (nI_pos' (show s' < 2147483648 by omega))]
          simp only [ibn, ↓reduceIte, i10]
          by_cases q : nI l = nI l'
          · rw [if_pos q, if_pos q, x_hasCells h2, m_isBeyond h2, x_hasCells k2, m_isBeyond k2]
            simp only [ibn]
            by_cases q1 : 0 ≤ a2.toInt ∧ 0 ≤ a5.toInt ∧ a2.toInt + a5.toInt ≤ s
            · rw [if_pos q1, if_pos q1]
              simp only [↓reduceIte, i10]
              by_cases q2 : 0 ≤ a4.toInt ∧ 0 ≤ a5.toInt ∧ a4.toInt + a5.toInt ≤ s'
              · rw [if_pos q2, if_pos q2]
                simp only [↓reduceIte, i10]
                obtain ⟨p, hp, rfl⟩ := toI_ex (a := a2) (N := 61) q1.1 (by omega)
                obtain ⟨n, hn, rfl⟩ := toI_ex (a := a5) (N := 61) q1.2.1 (by omega)
                obtain ⟨p', hp', rfl⟩ := toI_ex (a := a4) (N := 61) q2.1 (by omega)
                rw [nI_toInt (by omega), nI_toInt (by omega)] at q1 q2
                have z1 : p + n ≤ s := by omega
                have z2 : p' + n ≤ s' := by omega
                rw [s_cl (show p < 2147483648 by omega), s_cl (show n < 2147483648 by omega), s_cl (show p' < 2147483648 by omega), if_neg (fun z => by
                  rcases z with z | z | z | z | z
                  · exact nI_pos (by omega) z
                  · exact nI_pos (by omega) z
                  · exact nI_pos (by omega) z
                  · exact z (by omega)
                  · exact z (by omega))]
                generalize hfu : 1000 = fu
                have c1 := m_cp1 (MA := MA) hj (show p + n ≤ 60 by omega) (fun el6_107 eMA_107 => lp_X5_copy_144 (fun el6_144 eMA_144 => Option.bind (f_X5_refused MI (nI n)) fun r182 => some (r182.1, r182.2, eMA_144)) (nI k) (nI p') (nI n) fu (0 : Int32) eMA_107) n fu 0 (MA 32) (by omega) (by omega)
                have c2 := m_cp2 (MA := va_up MA 32 (bz (fun q => MA 31 (60 * j + p + q)) (MA 32) 0 n)) hk (show p' + n ≤ 60 by omega) (fun el6_144 eMA_144 => Option.bind (f_X5_refused MI (nI n)) fun r182 => some (r182.1, r182.2, eMA_144)) n fu 0 ((va_up MA 32 (bz (fun q => MA 31 (60 * j + p + q)) (MA 32) 0 n)) 31) (by omega) (by omega)
                rw [vv_self, show nI 0 = (0 : Int32) from rfl] at c1
                rw [vv_self, show nI 0 = (0 : Int32) from rfl] at c2
                rw [c1, c2]
                refine ⟨_, _, _, _, _, rfl, rfl, ⟨g, G, RB_f ⟨R.1, VM_o (VM_o R.2.1 (Or.inr (Or.inr (Or.inr (Or.inr (Or.inl rfl))))) _) (Or.inr (Or.inr (Or.inr (Or.inl rfl)))) _, R.2.2⟩ 0, ?_, (uu_n MI (0 : Int32) (show (33 : Nat) ≠ 0 by decide)).trans t, uu_s MI 0 (0 : Int32)⟩⟩
                intro x hx
                rw [vv_s, vv_n _ _ (show (29 : Nat) ≠ 31 by decide), vv_n _ _ (show (29 : Nat) ≠ 32 by decide), vv_n _ _ (show (30 : Nat) ≠ 31 by decide), vv_n _ _ (show (30 : Nat) ≠ 32 by decide), vv_s, vv_n _ _ (show (31 : Nat) ≠ 32 by decide)]
                rcases S x hx with h | ⟨l2, s2, j1, j2, j3, j4, j5, j6, j7⟩
                · exact Or.inl h
                · right
                  refine ⟨l2, s2, j1, j2, j3, j4, j5, j6, fun i hi => ?_⟩
                  by_cases e : x = k
                  · subst e
                    rw [vv_s]
                    unfold va_cpy
                    by_cases r1 : p' ≤ i ∧ i < p' + n
                    · rw [if_pos r1, bz_i _ _ (by omega), bz_i _ _ (by omega), h7 _ (by omega)]
                      congr 1
                      omega
                    · rw [if_neg r1, bz_o _ _ (by omega), j7 i hi]
                  · rw [vv_n _ _ e, bz_o _ _ (by omega), j7 i hi]
              · rw [if_neg q2, if_neg q2]
                exact ⟨_, _, _, _, _, rfl, rfl, RL_f R S t 3⟩
            · rw [if_neg q1, if_neg q1]
              exact ⟨_, _, _, _, _, rfl, rfl, RL_f R S t 3⟩
          · rw [if_neg q, if_neg q]
            exact ⟨_, _, _, _, _, rfl, rfl, RL_f R S t 2⟩
    · rw [e1, e2, e3, e4]
      exact ⟨_, _, _, _, _, rfl, rfl, RL_f R S t 0⟩
  · rw [e1, e2]
    exact ⟨_, _, _, _, _, rfl, rfl, RL_f R S t 0⟩
end SH
