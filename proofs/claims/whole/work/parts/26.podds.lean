/-! HEARD, CLEAR, ODDS -/
theorem i10 : ¬ (1 : Int32) = 0 := by decide
def hrd (g : Nat → Nat) (G : Nat → Nat → Nat) (k p : Nat) : Nat := if bitN (g 9) k = 0 ∧ dutV g G k = 1 then G 2 p - G 8 (G 7 k) else 0
theorem hrd_le {g : Nat → Nat} {G : Nat → Nat → Nat} (w : WF g G) {p : Nat} (k : Nat) (hp : p < g 0) : hrd g G k p ≤ 9 := by
  have := (w.2.2.2.2.2.2.2.1 p hp).2.2
  unfold hrd
  split <;> omega
section HX
variable {BI : Nat → Int32} {BA : Nat → Nat → Int32} {MI : Nat → Int32} {MA : Nat → Nat → Int32} {g : Nat → Nat} {G : Nat → Nat → Nat}
theorem x_heard (V : VX BI BA g G) (w : WF g G) {k p : Nat} (hk : k < g 3) (hp : p < g 0) : f_X0_tenthsHeard BI BA (nI k) (nI p) = some (nI (hrd g G k p)) := by
  have V0 := V
  have w' := w
  obtain ⟨h0, h3, h9, h10, h11, h12, h13, hp_, hs, hc, hr⟩ := V
  obtain ⟨w0, w3, w9, w10, w11, w12, w13, wp, ws, wc, wr⟩ := w
  have hs := hs k hk
  have ws := ws k hk
  have hp_ := hp_ p hp
  have wp := wp p hp
  have hc := hc (G 7 k) (by omega)
  have wc := wc (G 7 k) (by omega)
  have hk4 : ¬ 4 ≤ k := by omega
  have hp4 : ¬ 4 ≤ p := by omega
  have hc3 : ¬ 3 ≤ G 7 k := by omega
  have b1 := bitN_lt (g 9) k
  have b2 := bitN_lt (g 10) (G 4 k)
  unfold f_X0_tenthsHeard hrd dutV
  rw [h12]
  simp (discharger := omega) only [li0, li1, li2, li3, li4, li7, li8, li9, li60, s_cl, s_le, s_lt, s_eq, s_add, s_mul, Nat.not_lt_zero, false_or, or_false, ↓reduceIte, ibind, low_eq (show k < 4 by omega) w12, x_isDeclared V0 w' (show k < 4 by omega), x_isDutiable V0 w' hk, hk4, hp4, hc3, hs.2.2.2, hp_.2, hc, s_subc (show G 2 p < 1073741824 by omega) (show G 8 (G 7 k) < 1073741824 by omega)]
  by_cases c1 : k = g 12
  · rw [if_pos c1, if_neg (by rw [if_pos c1]; omega)]
  · rw [if_neg c1]
    by_cases c2 : bitN (g 9) k = 0
    · rw [if_pos c2]
      by_cases c3 : bitN (g 10) (G 4 k) = 0
      · rw [if_pos c3, if_neg (by rw [if_neg c1]; omega)]
      · rw [if_neg c3, if_pos ⟨c2, by rw [if_neg c1]; omega⟩]
    · rw [if_neg c2, if_neg (by omega)]
theorem m_heard (V : VM MI MA g G) (w : WF g G) {k p : Nat} (hk : k < g 3) (hp : p < g 0) : f_X5_heardAt MI MA (nI k) (nI p) = some (nI (hrd g G k p)) := by
  have V0 := V
  have w' := w
  obtain ⟨h0, h3, h9, h10, h11, h12, h13, hp_, hs, hc, hr⟩ := V
  obtain ⟨w0, w3, w9, w10, w11, w12, w13, wp, ws, wc, wr⟩ := w
  have hs := hs k hk
  have ws := ws k hk
  have hp_ := hp_ p hp
  have wp := wp p hp
  have hc := hc (G 7 k) (by omega)
  have wc := wc (G 7 k) (by omega)
  have hk4 : ¬ 4 ≤ k := by omega
  have hp4 : ¬ 4 ≤ p := by omega
  have hc3 : ¬ 3 ≤ G 7 k := by omega
  have b1 := bitN_lt (g 9) k
  have b2 := dutV_lt g G k
  unfold f_X5_heardAt hrd
  rw [h9]
  have e : (nI (G 2 p) - nI (G 8 (G 7 k)) ≤ nI 0) ↔ G 2 p - G 8 (G 7 k) = 0 := by
    by_cases q : G 8 (G 7 k) ≤ G 2 p
    · rw [pk_sub q, s_le (by omega) (by omega)]; omega
    · have h1 : nI (G 2 p) - nI (G 8 (G 7 k)) < 0 := pk_sneg (by omega) (by omega)
      constructor
      · intro _; omega
      · intro _
        have h3 : nI (G 2 p) - nI (G 8 (G 7 k)) < nI 0 := h1
        rw [Int32.lt_iff_toInt_lt] at h3
        rw [Int32.le_iff_toInt_le]
        omega
  simp (discharger := omega) only [li0, li1, li2, li3, li4, li7, li8, li9, li60, s_cl, s_le, s_lt, s_eq, s_add, s_mul, Nat.not_lt_zero, false_or, or_false, ↓reduceIte, ibind, hk4, hp4, hc3, hs.2.2.2, hp_.2, hc, e, m_isIn (show g 9 < 2147483648 by omega) (show k < 32 by omega), m_isDutiable V0 w' hk]
  by_cases c1 : G 2 p - G 8 (G 7 k) = 0
  · rw [if_pos c1, c1]
    split <;> rfl
  · rw [if_neg c1]
    by_cases c2 : bitN (g 9) k = 0
    · rw [if_pos c2]
      by_cases c3 : dutV g G k = 0
      · rw [if_pos c3, if_neg (by omega)]
      · rw [if_neg c3, if_pos ⟨c2, by omega⟩, pk_sub (by omega)]
    · rw [if_neg c2, if_neg (by omega)]
def prodN (f : Nat → Nat) : Nat → Nat → Nat
  | 0, _ => 1
  | d + 1, k => f k * prodN f d (k + 1)
theorem x_cl (V : VX BI BA g G) (w : WF g G) {p : Nat} (hp : p < g 0) (kk : Int64 → Int64 → Int32 → Option Int64) : ∀ d fuel k a b, k + d = g 3 → d < fuel → lp_X4_clear_32 kk BI BA (nI p) fuel (lN a) (lN b) (nI k) = kk (lN (a * prodN (fun x => 10 - hrd g G x p) d k)) (lN (b * 10 ^ d)) (nI (g 3)) := by
  have w3 := w.2.1
  intro d
  induction d with
  | zero =>
    intro fuel k a b hk hf
    obtain ⟨f, rfl⟩ : ∃ f, fuel = f + 1 := ⟨fuel - 1, by omega⟩
    unfold lp_X4_clear_32
    rw [V.2.1, if_pos (by rw [s_le (by omega) (by omega)]; omega), show k = g 3 by omega]
    simp [prodN]
  | succ d ih =>
    intro fuel k a b hk hf
    obtain ⟨f, rfl⟩ : ∃ f, fuel = f + 1 := ⟨fuel - 1, by omega⟩
    have hh := hrd_le w k hp
    unfold lp_X4_clear_32
    rw [V.2.1, if_neg (by rw [s_le (by omega) (by omega)]; omega), x_heard V w (by omega) hp, ibind, show (10 : Int32) = nI 10 from rfl, pk_sub (by omega), nI_l (by omega), show (10 : Int64) = lN 10 from rfl, lN_mul, lN_mul, nI_1, ih f (k + 1) _ _ (by omega) (by omega)]
    simp only [prodN, Nat.pow_succ]
    rw [Nat.mul_assoc, Nat.mul_assoc, Nat.mul_comm 10 (10 ^ d)]
theorem m_cl (V : VM MI MA g G) (w : WF g G) {p : Nat} (hp : p < g 0) (kk : Int64 → Int32 → Option Int64) : ∀ d fuel k a, k + d = g 3 → d < fuel → lp_X5_clear_27 kk MI MA (nI p) fuel (lN a) (nI k) = kk (lN (a * prodN (fun x => 10 - hrd g G x p) d k)) (nI (g 3)) := by
  have w3 := w.2.1
  intro d
  induction d with
  | zero =>
    intro fuel k a hk hf
    obtain ⟨f, rfl⟩ : ∃ f, fuel = f + 1 := ⟨fuel - 1, by omega⟩
    unfold lp_X5_clear_27
    rw [V.2.1, if_pos (by rw [s_le (by omega) (by omega)]; omega), show k = g 3 by omega]
    simp [prodN]
  | succ d ih =>
    intro fuel k a hk hf
    obtain ⟨f, rfl⟩ : ∃ f, fuel = f + 1 := ⟨fuel - 1, by omega⟩
    have hh := hrd_le w k hp
    unfold lp_X5_clear_27
    rw [V.2.1, if_neg (by rw [s_le (by omega) (by omega)]; omega), m_heard V w (by omega) hp, ibind, nI_l (by omega), show (10 : Int64) = lN 10 from rfl, lN_sub (by omega), lN_mul, nI_1, ih f (k + 1) _ (by omega) (by omega)]
    simp only [prodN]
    rw [Nat.mul_assoc]
theorem m_tn (kk : Int64 → Int32 → Option Int64) {n : Nat} (hn : n < 100) : ∀ d fuel k a, k + d = n → d < fuel → lp_X5_tens_4 kk (nI n) fuel (lN a) (nI k) = kk (lN (a * 10 ^ d)) (nI n) := by
  intro d
  induction d with
  | zero =>
    intro fuel k a hk hf
    obtain ⟨f, rfl⟩ : ∃ f, fuel = f + 1 := ⟨fuel - 1, by omega⟩
    unfold lp_X5_tens_4
    rw [if_pos (by rw [s_le (by omega) (by omega)]; omega), show k = n by omega]
    simp
  | succ d ih =>
    intro fuel k a hk hf
    obtain ⟨f, rfl⟩ : ∃ f, fuel = f + 1 := ⟨fuel - 1, by omega⟩
    unfold lp_X5_tens_4
    rw [if_neg (by rw [s_le (by omega) (by omega)]; omega), show (10 : Int64) = lN 10 from rfl, lN_mul, nI_1, ih f (k + 1) _ (by omega) (by omega)]
    rw [Nat.pow_succ, Nat.mul_assoc, Nat.mul_comm 10 (10 ^ d)]
theorem m_tens {n : Nat} (hn : n < 100) : f_X5_tens (nI n) = some (lN (10 ^ n)) := by
  unfold f_X5_tens
  refine (m_tn _ hn n 1000 0 1 (by omega) (by omega)).trans ?_
  rw [Nat.one_mul]
theorem prodN_le {f : Nat → Nat} {c : Nat} (hf : ∀ x, f x ≤ c) : ∀ d k, prodN f d k ≤ c ^ d := by
  intro d
  induction d with
  | zero => intro k; exact Nat.le_refl _
  | succ d ih =>
    intro k
    rw [Nat.pow_succ, Nat.mul_comm]
    exact Nat.mul_le_mul (hf k) (ih (k + 1))
/-- clear: alike -/
theorem e_clear (vx : VX BI BA g G) (vm : VM MI MA g G) (w : WF g G) (a1 a2 : Int32) : ∃ r, f_X4_clear BI BA a1 a2 = some r ∧ f_X5_clear MI MA a1 a2 = some r := by
  have w3 := w.2.1
  unfold f_X4_clear f_X5_clear
  rcases px vx vm w a1 with ⟨p, hp, rfl, e1, e2⟩ | ⟨e1, e2⟩
  · rw [e1, e2]
    simp only [ibind, ↓reduceIte, i10]
    rcases wi a2 (N := 1) (by decide) with ⟨j, hj, rfl, e3, e4⟩ | ⟨e3, e4⟩
    · rw [li1, e3, show (1 : Int64) = lN 1 from rfl, e4]
      simp only [ibind, ↓reduceIte, i10]
      rw [li0, x_cl vx w hp _ (g 3) 1000 0 1 1 (by omega) (by omega), m_cl vm w hp _ (g 3) 1000 0 1 (by omega) (by omega), vm.2.1, m_tens (by omega)]
      have hpl := prodN_le (f := fun x => 10 - hrd g G x p) (c := 10) (fun x => Nat.sub_le _ _) (g 3) 0
      have h10 : 10 ^ g 3 ≤ 10 ^ 4 := Nat.pow_le_pow_right (by decide) w3
      have h104 : (10 : Nat) ^ 4 = 10000 := rfl
      have hpos : 0 < 10 ^ g 3 := Nat.pow_pos (by decide)
      simp only [ibind, Nat.one_mul]
      rw [x_lt (by omega) (Nat.lt_of_le_of_lt h10 (by decide)) hpos, m_told (by omega) (Nat.lt_of_le_of_lt h10 (by decide)) hpos]
      exact ⟨_, rfl, rfl⟩
    · rw [li1, e3, show (1 : Int64) = lN 1 from rfl, e4]
      exact ⟨_, rfl, rfl⟩
  · rw [e1, e2]
    exact ⟨_, rfl, rfl⟩
def oN (g : Nat → Nat) (G : Nat → Nat → Nat) (p v s : Nat) : Nat := if v ≤ dty (va_up g 9 s) G p then 1 else 0
theorem x_od (V : VX BI BA g G) (w : WF g G) {p v : Nat} (hp : p < g 0) (hv : v ≤ 99999) (kk : Int32 → Int32 → (Nat → Int32) → Option (Int64 × (Nat → Int32))) : ∀ d fuel k c, k + d = 2 ^ g 3 → d < fuel → ∀ BI', (∀ u, upd BI' 9 u = upd BI 9 u) → ∃ BI'', (∀ u, upd BI'' 9 u = upd BI 9 u) ∧ lp_X4_odds_58 kk BA (nI p) (nI v) (nI (2 ^ g 3 - 1)) fuel (nI c) (nI k) BI' = kk (nI (c + sumN (oN g G p v) d k)) (nI (2 ^ g 3)) BI'' := by
  have hq := pw_le w.2.1
  have hq0 := pw_pos (g 3)
  intro d
  induction d with
  | zero =>
    intro fuel k c hk hf BI' hB
    obtain ⟨f, rfl⟩ : ∃ f, fuel = f + 1 := ⟨fuel - 1, by omega⟩
    refine ⟨BI', hB, ?_⟩
    unfold lp_X4_odds_58
    rw [if_pos (by rw [s_lt (by omega) (by omega)]; omega), show k = 2 ^ g 3 by omega]
    rfl
  | succ d ih =>
    intro fuel k c hk hf BI' hB
    obtain ⟨f, rfl⟩ : ∃ f, fuel = f + 1 := ⟨fuel - 1, by omega⟩
    obtain ⟨B, hB2, hI⟩ := ih f (k + 1) (c + oN g G p v k) (by omega) (by omega) (upd BI 9 (nI k)) (fun u => uu_u BI 9 _ u)
    refine ⟨B, hB2, ?_⟩
    have wk := WF_9 w (v := k) (by omega)
    have hd := dty_le wk (p := p) hp
    unfold lp_X4_odds_58
    rw [if_neg (by rw [s_lt (by omega) (by omega)]; omega), hB, x_dutyAt (VX_9 V k) wk hp, ibind, nI_1]
    simp only [sumN]
    rw [← Nat.add_assoc, ← hI]
    unfold oN
    by_cases q : v ≤ dty (va_up g 9 k) G p
    · rw [if_pos q, if_neg (by rw [s_lt (by omega) (by omega)]; omega), nI_1]
    · rw [if_neg q, if_pos (by rw [s_lt (by omega) (by omega)]; omega)]
      rfl
theorem m_od (V : VM MI MA g G) (w : WF g G) {p v : Nat} (hp : p < g 0) (hv : v ≤ 99999) (kk : Int64 → Int32 → (Nat → Int32) → Option (Int64 × (Nat → Int32))) : ∀ d fuel k c, k + d = 2 ^ g 3 → d < fuel → ∀ MI', (∀ u, upd MI' 10 u = upd MI 10 u) → MI' 4 = MI 4 → ∃ MI'', (∀ u, upd MI'' 10 u = upd MI 10 u) ∧ lp_X5_odds_46 kk MA (nI p) (nI v) fuel (lN c) (nI k) MI' = kk (lN (c + sumN (oN g G p v) d k)) (nI (2 ^ g 3)) MI'' := by
  have hq := pw_le w.2.1
  have hq0 := pw_pos (g 3)
  intro d
  induction d with
  | zero =>
    intro fuel k c hk hf MI' hB h4
    obtain ⟨f, rfl⟩ : ∃ f, fuel = f + 1 := ⟨fuel - 1, by omega⟩
    refine ⟨MI', hB, ?_⟩
    have ha : f_X5_all MI' = some (nI (2 ^ g 3 - 1)) := by unfold f_X5_all; rw [h4, V.2.1, all_eq w.2.1]
    unfold lp_X5_odds_46
    rw [ha, ibind, if_pos (by rw [s_lt (by omega) (by omega)]; omega), show k = 2 ^ g 3 by omega]
    rfl
  | succ d ih =>
    intro fuel k c hk hf MI' hB h4
    obtain ⟨f, rfl⟩ : ∃ f, fuel = f + 1 := ⟨fuel - 1, by omega⟩
    obtain ⟨B, hB2, hI⟩ := ih f (k + 1) (c + oN g G p v k) (by omega) (by omega) (upd MI 10 (nI k)) (fun u => uu_u MI 10 _ u) (by rw [uu_n _ _ (by decide)])
    refine ⟨B, hB2, ?_⟩
    have wk := WF_9 w (v := k) (by omega)
    have hd := dty_le wk (p := p) hp
    have ha : f_X5_all MI' = some (nI (2 ^ g 3 - 1)) := by unfold f_X5_all; rw [h4, V.2.1, all_eq w.2.1]
    unfold lp_X5_odds_46
    rw [ha, ibind, if_neg (by rw [s_lt (by omega) (by omega)]; omega), hB, m_dutyAt (VM_9 V k) wk hp, ibind, nI_1]
    simp only [sumN]
    rw [← Nat.add_assoc, ← hI]
    unfold oN
    by_cases q : v ≤ dty (va_up g 9 k) G p
    · rw [if_pos q, if_neg (by rw [s_lt (by omega) (by omega)]; omega), lN_1]
    · rw [if_neg q, if_pos (by rw [s_lt (by omega) (by omega)]; omega), show (0 : Int64) = lN 0 from rfl, lN_add]
theorem sumN_le1 {f : Nat → Nat} (hf : ∀ x, f x ≤ 1) (d k : Nat) : sumN f d k ≤ d := by
  have := sumN_le (c := 1) d k (fun x _ _ => hf x)
  omega
/-- odds: alike, and nothing stays otherwise -/
theorem e_odds (vx : VX BI BA g G) (vm : VM MI MA g G) (w : WF g G) (a1 a2 a3 : Int32) : ∃ r, f_X4_odds BI BA a1 a2 a3 = some (r, BI) ∧ f_X5_odds MI MA a1 a2 a3 = some (r, MI) := by
  have hq := pw_le w.2.1
  have hq0 := pw_pos (g 3)
  unfold f_X4_odds f_X5_odds
  rcases px vx vm w a1 with ⟨p, hp, rfl, e1, e2⟩ | ⟨e1, e2⟩
  · rw [e1, e2]
    simp only [ibind, ↓reduceIte, i10]
    rcases wi a2 (N := 99999) (by decide) with ⟨v, hv, rfl, e3, e4⟩ | ⟨e3, e4⟩
    · rw [show (99999 : Int32) = nI 99999 from rfl, e3, show (99999 : Int64) = lN 99999 from rfl, e4]
      simp only [ibind, ↓reduceIte, i10]
      rcases wi a3 (N := 1) (by decide) with ⟨j, hj, rfl, e5, e6⟩ | ⟨e5, e6⟩
      · rw [li1, e5, show (1 : Int64) = lN 1 from rfl, e6]
        simp only [ibind, ↓reduceIte, i10]
        rw [x_all vx w]
        simp only [ibind]
        obtain ⟨B, hB, h1⟩ := x_od vx w hp hv (fun el6_58 el7_58 eBI_58 => Option.bind (f_X4_leastTerms el6_58.toInt64 ((nI (2 ^ g 3 - 1) + nI 1).toInt64) (nI j)) fun r113 => some (r113, upd eBI_58 9 (BI 9))) (2 ^ g 3) 1000 0 0 (by omega) (by omega) BI (fun _ => rfl)
        obtain ⟨M, hM, h2⟩ := m_od vm w hp hv (fun el5_46 el7_46 eMI_46 => Option.bind (f_X5_all (upd eMI_46 10 (MI 10))) fun r95 => Option.bind (f_X5_told el5_46 (r95.toInt64 + lN 1) (nI j)) fun r102 => some (r102, upd eMI_46 10 (MI 10))) (2 ^ g 3) 1000 0 0 (by omega) (by omega) MI (fun _ => rfl) rfl
        rw [li0] at *
        rw [show (0 : Int64) = lN 0 from rfl] at *
        rw [h1, h2, hB, hM, uu_self, uu_self, m_all vm w]
        have hs := sumN_le1 (f := oN g G p v) (fun x => by unfold oN; split <;> omega) (2 ^ g 3) 0
        simp only [ibind, Nat.zero_add]
        rw [s_add, nI_l (by omega), nI_l (by omega), nI_l (by omega), lN_add, show 2 ^ g 3 - 1 + 1 = 2 ^ g 3 by omega, x_lt (by omega) (by omega) hq0, m_told (by omega) (by omega) hq0]
        exact ⟨_, rfl, rfl⟩
      · rw [li1, e5, show (1 : Int64) = lN 1 from rfl, e6]
        exact ⟨_, rfl, rfl⟩
    · rw [show (99999 : Int32) = nI 99999 from rfl, e3, show (99999 : Int64) = lN 99999 from rfl, e4]
      exact ⟨_, rfl, rfl⟩
  · rw [e1, e2]
    exact ⟨_, rfl, rfl⟩
end HX
