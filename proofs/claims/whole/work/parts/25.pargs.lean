/-! arguments: in range or not, alike on both sides -/
theorem toI_ex {a : Int32} {N : Nat} (h1 : 0 ≤ a.toInt) (h2 : a.toInt < N) : ∃ j, j < N ∧ a = nI j := by
  have hb := a.toInt_lt
  refine ⟨a.toInt.toNat, by omega, ?_⟩
  apply Int32.toInt_inj.mp
  rw [nI_toInt (by omega)]
  omega
theorem x_within (a lo hi : Int32) : f_X4_isWithin a lo hi = some (if lo.toInt ≤ a.toInt ∧ a.toInt ≤ hi.toInt then 1 else 0) := by
  unfold f_X4_isWithin
  simp only [Int32.lt_iff_toInt_lt]
  by_cases h1 : a.toInt < lo.toInt
  · rw [if_pos h1, if_neg (by omega)]
  · rw [if_neg h1]
    by_cases h2 : hi.toInt < a.toInt
    · rw [if_pos h2, if_neg (by omega)]
    · rw [if_neg h2, if_pos (by omega)]
theorem m_in (a : Int32) (b : Int64) : f_X5_in a.toInt64 0 b = some (if 0 ≤ a.toInt ∧ a.toInt ≤ b.toInt then 1 else 0) := by
  unfold f_X5_in
  simp only [lg_cmp_lt, lg_cmp_gt, Int64.lt_iff_toInt_lt, Int32.toInt_toInt64]
  have e : (0 : Int64).toInt = 0 := by decide
  rw [e]
  by_cases h1 : a.toInt < 0
  · rw [if_pos h1, if_neg (by omega)]
  · rw [if_neg h1]
    by_cases h2 : b.toInt < a.toInt
    · rw [if_pos h2, if_neg (by omega)]
    · rw [if_neg h2, if_pos (by omega)]
/-- a number of 0 .. N: alike -/
theorem wi (a : Int32) {N : Nat} (hN : N < 2147483647) : (∃ j, j ≤ N ∧ a = nI j ∧ f_X4_isWithin a 0 (nI N) = some 1 ∧ f_X5_in a.toInt64 0 (lN N) = some 1) ∨ (f_X4_isWithin a 0 (nI N) = some 0 ∧ f_X5_in a.toInt64 0 (lN N) = some 0) := by
  rw [x_within, m_in, nI_toInt (by omega), lN_toInt (by omega), show (0 : Int32).toInt = 0 by decide]
  by_cases h : 0 ≤ a.toInt ∧ a.toInt ≤ (N : Int)
  · left
    obtain ⟨j, hj, e⟩ := toI_ex (N := N + 1) h.1 (by omega)
    exact ⟨j, by omega, e, by rw [if_pos h], by rw [if_pos h]⟩
  · right
    exact ⟨by rw [if_neg h], by rw [if_neg h]⟩
section AR
variable {BI : Nat → Int32} {BA : Nat → Nat → Int32} {MI : Nat → Int32} {MA : Nat → Nat → Int32} {g : Nat → Nat} {G : Nat → Nat → Nat}
theorem x_hasL (a : Int32) {m : Nat} (hm : m < 2147483648) : (if a < 0 then (some (0 : Int32)) else (if nI m ≤ a then (some (0 : Int32)) else (some (1 : Int32)))) = some (if 0 ≤ a.toInt ∧ a.toInt < m then 1 else 0) := by
  simp only [Int32.lt_iff_toInt_lt, Int32.le_iff_toInt_le, nI_toInt hm, show (0 : Int32).toInt = 0 by decide]
  by_cases h1 : a.toInt < 0
  · rw [if_pos h1, if_neg (by omega)]
  · rw [if_neg h1]
    by_cases h2 : (m : Int) ≤ a.toInt
    · rw [if_pos h2, if_neg (by omega)]
    · rw [if_neg h2, if_pos (by omega)]
theorem lN_m1 {m : Nat} (hm : m < 2147483648) : (lN m - 1).toInt = (m : Int) - 1 := by
  rcases m with _ | m
  · decide
  · rw [show lN (m + 1) - 1 = lN m by rw [show (1 : Int64) = lN 1 from rfl, lN_sub (by omega)]; rfl, lN_toInt (by omega)]
    omega
theorem m_noL (a : Int32) {m : Nat} (hm : m < 2147483648) : (Option.bind (f_X5_in a.toInt64 (0 : Int64) (((nI m).toInt64) - (1 : Int64))) fun r10 => if r10 = 0 then (some (1 : Int32)) else (some (0 : Int32))) = some (if 0 ≤ a.toInt ∧ a.toInt < m then 0 else 1) := by
  rw [nI_l hm, m_in, ibind, lN_m1 hm]
  have e : (0 ≤ a.toInt ∧ a.toInt ≤ (m : Int) - 1) ↔ (0 ≤ a.toInt ∧ a.toInt < m) := by omega
  simp only [e]
  by_cases h : 0 ≤ a.toInt ∧ a.toInt < m
  · rw [if_pos h, if_pos h]; rfl
  · rw [if_neg h, if_neg h]; rfl
theorem px (VX_ : VX BI BA g G) (VM_ : VM MI MA g G) (w : WF g G) (a : Int32) : (∃ j, j < g 0 ∧ a = nI j ∧ f_X0_hasPost BI a = some 1 ∧ f_X5_noPost MI a = some 0) ∨ (f_X0_hasPost BI a = some 0 ∧ f_X5_noPost MI a = some 1) := by
  unfold f_X0_hasPost f_X5_noPost
  have w0 := w.1
  rw [VX_.1, VM_.1, x_hasL a (by omega), m_noL a (by omega)]
  by_cases h : 0 ≤ a.toInt ∧ a.toInt < (g 0 : Int)
  · left
    obtain ⟨j, hj, e⟩ := toI_ex h.1 h.2
    exact ⟨j, hj, e, by rw [if_pos h], by rw [if_pos h]⟩
  · right
    exact ⟨by rw [if_neg h], by rw [if_neg h]⟩
theorem sx (VX_ : VX BI BA g G) (VM_ : VM MI MA g G) (w : WF g G) (a : Int32) : (∃ j, j < g 3 ∧ a = nI j ∧ f_X0_hasSilence BI a = some 1 ∧ f_X5_noSilence MI a = some 0) ∨ (f_X0_hasSilence BI a = some 0 ∧ f_X5_noSilence MI a = some 1) := by
  unfold f_X0_hasSilence f_X5_noSilence
  have w0 := w.2.1
  rw [VX_.2.1, VM_.2.1, x_hasL a (by omega), m_noL a (by omega)]
  by_cases h : 0 ≤ a.toInt ∧ a.toInt < (g 3 : Int)
  · left
    obtain ⟨j, hj, e⟩ := toI_ex h.1 h.2
    exact ⟨j, hj, e, by rw [if_pos h], by rw [if_pos h]⟩
  · right
    exact ⟨by rw [if_neg h], by rw [if_neg h]⟩
theorem cx (a : Int32) : (∃ j, j < 3 ∧ a = nI j ∧ f_X4_isWithin a 0 2 = some 1 ∧ f_X5_noCarrier a = some 0) ∨ (f_X4_isWithin a 0 2 = some 0 ∧ f_X5_noCarrier a = some 1) := by
  unfold f_X5_noCarrier
  rcases wi a (N := 2) (by decide) with ⟨j, hj, e, h1, h2⟩ | ⟨h1, h2⟩
  · left
    exact ⟨j, by omega, e, h1, by rw [show (2 : Int64) = lN 2 from rfl, h2]; rfl⟩
  · right
    exact ⟨h1, by rw [show (2 : Int64) = lN 2 from rfl, h2]; rfl⟩
theorem hx (a : Int32) : (∃ j, j < 4 ∧ a = nI j ∧ f_X4_isSheet a = some 1 ∧ f_X5_noSheet a = some 0) ∨ (f_X4_isSheet a = some 0 ∧ f_X5_noSheet a = some 1) := by
  unfold f_X4_isSheet f_X5_noSheet
  rcases wi a (N := 3) (by decide) with ⟨j, hj, e, h1, h2⟩ | ⟨h1, h2⟩
  · left
    exact ⟨j, by omega, e, by rw [li3, h1]; rfl, by rw [show (3 : Int64) = lN 3 from rfl, h2]; rfl⟩
  · right
    exact ⟨by rw [li3, h1]; rfl, by rw [show (3 : Int64) = lN 3 from rfl, h2]; rfl⟩
end AR
/-! shares in least terms -/
theorem gcd_st (a b : Nat) : Nat.gcd a b = Nat.gcd b (a % b) := by
  rw [Nat.gcd_comm a b, Nat.gcd_rec b a, Nat.gcd_comm]
theorem mod_half {b r : Nat} (hr : 0 < r) (hrb : r < b) : 2 * (b % r) < b := by
  have h1 := Nat.mod_lt b hr
  by_cases h : 2 * r ≤ b
  · omega
  · have : b % r = b - r := by
      rw [Nat.mod_eq_sub_mod (by omega), Nat.mod_eq_of_lt (by omega)]
    omega
theorem x_gcd1 (kk : Int64 → Int64 → Int32 → Option Int64) {f a b s : Nat} (ha : a < 9223372036854775808) (hb : b < 9223372036854775808) (hs : s < 100) : lp_X4_commonDivisor_9 kk (f + 1) (lN a) (lN b) (nI s) = if b = 0 then kk (lN a) (lN b) (nI s) else lp_X4_commonDivisor_9 kk f (lN b) (lN (a % b)) (nI (s + 1)) := by
  conv => lhs; unfold lp_X4_commonDivisor_9
  rw [if_neg (by rw [li100, s_le (by omega) (by omega)]; omega)]
  simp only [lg_cmp_eq, show (0 : Int64) = lN 0 from rfl, pk_lEQ hb (show 0 < 2 ^ 63 by decide)]
  by_cases h : b = 0
  · rw [if_pos h, if_pos h]
  · rw [if_neg h, if_neg h, if_neg h, pk_lRem ha (by omega) hb, nI_1]
theorem x_gcd (kk : Int64 → Int64 → Int32 → Option Int64) : ∀ j f a b s, a < 9223372036854775808 → b < 9223372036854775808 → b < 2 ^ j → s + 2 * j < 100 → 2 * j < f → ∃ s', lp_X4_commonDivisor_9 kk f (lN a) (lN b) (nI s) = kk (lN (Nat.gcd a b)) (lN 0) (nI s') := by
  intro j
  induction j with
  | zero =>
    intro f a b s ha hb hj hs hf
    obtain ⟨f, rfl⟩ : ∃ f', f = f' + 1 := ⟨f - 1, by omega⟩
    have : b = 0 := by simpa using hj
    subst this
    exact ⟨s, by rw [x_gcd1 kk ha hb (by omega), if_pos rfl, Nat.gcd_zero_right]⟩
  | succ j ih =>
    intro f a b s ha hb hj hs hf
    obtain ⟨f, rfl⟩ : ∃ f', f = f' + 2 := ⟨f - 2, by omega⟩
    by_cases h0 : b = 0
    · subst h0
      exact ⟨s, by rw [x_gcd1 kk ha hb (by omega), if_pos rfl, Nat.gcd_zero_right]⟩
    · have hr := Nat.mod_lt a (show 0 < b by omega)
      rw [x_gcd1 kk ha hb (by omega), if_neg h0, gcd_st a b]
      by_cases h1 : a % b = 0
      · refine ⟨s + 1, ?_⟩
        rw [h1, x_gcd1 kk hb (by decide) (by omega), if_pos rfl, Nat.gcd_zero_right]
      · have hh := mod_half (show 0 < a % b by omega) hr
        rw [x_gcd1 kk hb (by omega) (by omega), if_neg h1, gcd_st b (a % b)]
        exact ih f (a % b) (b % (a % b)) (s + 1 + 1) (by omega) (by omega) (by rw [Nat.pow_succ] at hj; omega) (by omega) (by omega)
theorem x_lt {a b : Nat} (ha : a < 9223372036854775808) (hb : b < 2 ^ 40) (h0 : 0 < b) (wh : Int32) : f_X4_leastTerms (lN a) (lN b) wh = some (lN ((if wh = 0 then a else b) / Nat.gcd a b)) := by
  have hb2 : b < 9223372036854775808 := Nat.lt_trans hb (by decide)
  have hg0 : 0 < Nat.gcd a b := Nat.gcd_pos_of_pos_right a h0
  have hgl : Nat.gcd a b < 9223372036854775808 := Nat.lt_of_le_of_lt (Nat.le_of_dvd h0 (Nat.gcd_dvd_right a b)) hb2
  have hc : f_X4_commonDivisor (lN a) (lN b) = some (lN (Nat.gcd a b)) := by
    unfold f_X4_commonDivisor
    obtain ⟨s', h⟩ := x_gcd (fun el4_9 el6_9 el8_9 => some el4_9) 40 1000 a b 0 ha hb2 hb (by decide) (by decide)
    exact h
  unfold f_X4_leastTerms jb_X4_leastTerms_17
  have hz : ¬ Nat.gcd a b = 0 := by omega
  rw [hc]
  simp only [ibind, lg_cmp_eq, show (0 : Int64) = lN 0 from rfl, pk_lEQ hgl (show 0 < 2 ^ 63 by decide), if_neg hz, pk_lDiv ha hg0 hgl, pk_lDiv hb2 hg0 hgl]
  split <;> rfl
theorem m_gcd1 (kk : Int64 → Int64 → Option Int64) {f a b : Nat} (ha : a < 9223372036854775808) (hb : b < 9223372036854775808) : lp_X5_told_6 kk (f + 1) (lN a) (lN b) = if b = 0 then kk (lN a) (lN b) else lp_X5_told_6 kk f (lN b) (lN (a % b)) := by
  conv => lhs; unfold lp_X5_told_6
  simp only [lg_cmp_eq, show (0 : Int64) = lN 0 from rfl, pk_lEQ hb (show 0 < 2 ^ 63 by decide)]
  by_cases h : b = 0
  · rw [if_pos h, if_pos h]
  · rw [if_neg h, if_neg h, if_neg h, pk_lRem ha (by omega) hb]
theorem m_gcd (kk : Int64 → Int64 → Option Int64) : ∀ j f a b, a < 9223372036854775808 → b < 9223372036854775808 → b < 2 ^ j → 2 * j < f → lp_X5_told_6 kk f (lN a) (lN b) = kk (lN (Nat.gcd a b)) (lN 0) := by
  intro j
  induction j with
  | zero =>
    intro f a b ha hb hj hf
    obtain ⟨f, rfl⟩ : ∃ f', f = f' + 1 := ⟨f - 1, by omega⟩
    have : b = 0 := by simpa using hj
    subst this
    rw [m_gcd1 kk ha hb, if_pos rfl, Nat.gcd_zero_right]
  | succ j ih =>
    intro f a b ha hb hj hf
    obtain ⟨f, rfl⟩ : ∃ f', f = f' + 2 := ⟨f - 2, by omega⟩
    by_cases h0 : b = 0
    · subst h0
      rw [m_gcd1 kk ha hb, if_pos rfl, Nat.gcd_zero_right]
    · have hr := Nat.mod_lt a (show 0 < b by omega)
      rw [m_gcd1 kk ha hb, if_neg h0, gcd_st a b]
      by_cases h1 : a % b = 0
      · rw [h1, m_gcd1 kk hb (by decide), if_pos rfl, Nat.gcd_zero_right]
      · have hh := mod_half (show 0 < a % b by omega) hr
        rw [m_gcd1 kk hb (by omega), if_neg h1, gcd_st b (a % b)]
        exact ih f (a % b) (b % (a % b)) (by omega) (by omega) (by rw [Nat.pow_succ] at hj; omega) (by omega)
theorem m_told {a b : Nat} (ha : a < 9223372036854775808) (hb : b < 2 ^ 40) (h0 : 0 < b) (wh : Int32) : f_X5_told (lN a) (lN b) wh = some (lN ((if wh = 0 then a else b) / Nat.gcd a b)) := by
  have hb2 : b < 9223372036854775808 := Nat.lt_trans hb (by decide)
  have hg0 : 0 < Nat.gcd a b := Nat.gcd_pos_of_pos_right a h0
  have hgl : Nat.gcd a b < 9223372036854775808 := Nat.lt_of_le_of_lt (Nat.le_of_dvd h0 (Nat.gcd_dvd_right a b)) hb2
  have hz : ¬ Nat.gcd a b = 0 := by omega
  unfold f_X5_told
  rw [m_gcd _ 40 1000 a b ha hb2 hb (by decide)]
  simp only [show (0 : Int64) = lN 0 from rfl, pk_lEQ hgl (show 0 < 2 ^ 63 by decide), if_neg hz, pk_lDiv ha hg0 hgl, pk_lDiv hb2 hg0 hgl]
  split <;> rfl
