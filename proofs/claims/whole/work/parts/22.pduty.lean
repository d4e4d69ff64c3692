/-! DUTY -/
theorem ite_nI {c : Prop} [Decidable c] (a b : Nat) : (if c then nI a else nI b) = nI (if c then a else b) := by
  split <;> rfl
theorem s_subc {a b : Nat} (ha : a < 1073741824) (hb : b < 1073741824) : (if nI 0 < nI a - nI b then nI a - nI b else nI 0) = nI (a - b) := by
  by_cases h : b ≤ a
  · rw [pk_sub h]
    simp (discharger := omega) only [s_lt]
    by_cases h2 : 0 < a - b
    · rw [if_pos h2]
    · rw [if_neg h2, show a - b = 0 by omega]
  · have h1 : nI a - nI b < 0 := pk_sneg (by omega) (by omega)
    have h2 : ¬ nI 0 < nI a - nI b := fun q => by
      have h3 : (nI a - nI b) < nI 0 := h1
      rw [Int32.lt_iff_toInt_lt] at q h3
      omega
    rw [if_neg h2, show a - b = 0 by omega]
def sumN (f : Nat → Nat) : Nat → Nat → Nat
  | 0, _ => 0
  | d + 1, k => f k + sumN f d (k + 1)
theorem sumN_mul (f : Nat → Nat) (c : Nat) : ∀ d k, sumN (fun x => f x * c) d k = sumN f d k * c := by
  intro d
  induction d with
  | zero => intro k; simp [sumN]
  | succ d ih => intro k; simp only [sumN, ih, Nat.add_mul]
theorem sumN_le {f : Nat → Nat} {c : Nat} : ∀ d k, (∀ x, k ≤ x → x < k + d → f x ≤ c) → sumN f d k ≤ d * c := by
  intro d
  induction d with
  | zero => intro k _; simp [sumN]
  | succ d ih =>
    intro k h
    have h1 := h k (Nat.le_refl k) (by omega)
    have h2 := ih (k + 1) (fun x a b => h x (by omega) (by omega))
    simp only [sumN]
    rw [Nat.add_mul]
    omega
def mgF (g : Nat → Nat) (G : Nat → Nat → Nat) (who : Nat) : Nat → Nat → Nat → Nat → Nat × Nat
  | 0, _, t, r => (t, r)
  | d + 1, k, t, r => if G 7 k = who ∧ bitN (g 9) k = 1 ∧ dutV g G k = 1 then mgF g G who d (k + 1) (t + G 5 k) (if r < grN (G 4 k) (G 6 k) then grN (G 4 k) (G 6 k) else r) else mgF g G who d (k + 1) t r
theorem mgF_le {g : Nat → Nat} {G : Nat → Nat → Nat} (w : WF g G) (who : Nat) : ∀ d k t r, k + d ≤ g 3 → r ≤ 20 → (mgF g G who d k t r).1 ≤ t + 9 * d ∧ (mgF g G who d k t r).2 ≤ 20 := by
  intro d
  induction d with
  | zero => intro k t r _ h; exact ⟨Nat.le_refl _, h⟩
  | succ d ih =>
    intro k t r hk hr
    have ws := w.2.2.2.2.2.2.2.2.1 k (by omega)
    have hg := grN_le (kd := G 4 k) ws.2.2.1
    unfold mgF
    split
    · have h := ih (k + 1) (t + G 5 k) (if r < grN (G 4 k) (G 6 k) then grN (G 4 k) (G 6 k) else r) (by omega) (by split <;> omega)
      omega
    · have h := ih (k + 1) t r (by omega) hr
      omega
section XD
variable {BI : Nat → Int32} {BA : Nat → Nat → Int32} {g : Nat → Nat} {G : Nat → Nat → Nat}
theorem x_mg (V : VX BI BA g G) (w : WF g G) {who : Nat} (hw : who < 3) (kk : Int32 → Int32 → Int32 → Option Int32) : ∀ d fuel k t r, k + d = g 3 → d < fuel → r ≤ 20 → lp_X0_minutesByGrade_7 kk BI BA (nI who) fuel (nI t) (nI r) (nI k) = kk (nI (mgF g G who d k t r).1) (nI (mgF g G who d k t r).2) (nI (g 3)) := by
  have V0 := V
  have w0' := w
  obtain ⟨h0, h3, h9, h10, h11, h12, h13, hp, hs, hc, hr⟩ := V
  obtain ⟨w0, w3, w9, w10, w11, w12, w13, wp, ws, wc, wr⟩ := w
  intro d
  induction d with
  | zero =>
    intro fuel k t r hk hf hr
    obtain ⟨f, rfl⟩ : ∃ f, fuel = f + 1 := ⟨fuel - 1, by omega⟩
    unfold lp_X0_minutesByGrade_7
    have hk' : g 3 ≤ k := by omega
    rw [h3, show k = g 3 by omega]
    simp [mgF, s_le (show g 3 < 2147483648 by omega) (show g 3 < 2147483648 by omega)]
  | succ d ih =>
    intro fuel k t r hk hf hr
    obtain ⟨f, rfl⟩ : ∃ f, fuel = f + 1 := ⟨fuel - 1, by omega⟩
    have hk3 : k < g 3 := by omega
    have hk3' : ¬ g 3 ≤ k := by omega
    have hk4 : ¬ 4 ≤ k := by omega
    have hs := hs k hk3
    have ws := ws k hk3
    have hb1 := bitN_lt (g 9) k
    have hb2 := bitN_lt (g 10) (G 4 k)
    have hgr := grN_le (kd := G 4 k) ws.2.2.1
    unfold lp_X0_minutesByGrade_7 mgF
    rw [h3, h12]
    simp (discharger := omega) only [li0, li1, li2, li3, li4, li7, li8, li9, li60, s_cl, s_le, s_lt, s_eq, s_add, s_mul, Nat.not_lt_zero, false_or, or_false, ↓reduceIte, ibind, hk4, hk3', hs.1, hs.2.1, hs.2.2.1, hs.2.2.2, low_eq (show k < 4 by omega) w12, x_isDeclared V0 w0' (show k < 4 by omega), x_isDutiable V0 w0' hk3, x_gradeOf V0 w0' hk3, ite_nI]
    by_cases c1 : G 7 k = who
    · rw [if_pos c1]
      by_cases c2 : k = g 12
      · rw [if_pos c2, if_neg (by unfold dutV; rw [if_pos c2]; omega)]
        exact ih f (k + 1) t r (by omega) (by omega) hr
      · rw [if_neg c2]
        by_cases c3 : bitN (g 9) k = 0
        · rw [if_pos c3, if_neg (by omega)]
          exact ih f (k + 1) t r (by omega) (by omega) hr
        · rw [if_neg c3]
          by_cases c4 : bitN (g 10) (G 4 k) = 0
          · rw [if_pos c4, if_neg (by unfold dutV; rw [if_neg c2]; omega)]
            exact ih f (k + 1) t r (by omega) (by omega) hr
          · have hq : G 7 k = who ∧ bitN (g 9) k = 1 ∧ dutV g G k = 1 := ⟨c1, by omega, by unfold dutV; rw [if_neg c2]; omega⟩
            rw [if_neg c4, if_pos hq]
            exact ih f (k + 1) (t + G 5 k) (if r < grN (G 4 k) (G 6 k) then grN (G 4 k) (G 6 k) else r) (by omega) (by omega) (by split <;> omega)
    · rw [if_neg c1, if_neg (fun q => c1 q.1)]
      exact ih f (k + 1) t r (by omega) (by omega) hr
end XD
/-- minutes above the free ones times the greatest grade -/
def mbg (g : Nat → Nat) (G : Nat → Nat → Nat) (who : Nat) : Nat := ((mgF g G who (g 3) 0 0 0).1 - g 11) * (mgF g G who (g 3) 0 0 0).2
theorem mbg_le {g : Nat → Nat} {G : Nat → Nat → Nat} (w : WF g G) (who : Nat) : mbg g G who ≤ 720 := by
  have h := mgF_le w who (g 3) 0 0 0 (by omega) (by omega)
  have h3 := w.2.1
  unfold mbg
  calc _ ≤ 36 * 20 := Nat.mul_le_mul (by omega) h.2
    _ = 720 := rfl
def dS (g : Nat → Nat) (G : Nat → Nat → Nat) : Nat := sumN (mbg g G) 3 0
theorem dS_le {g : Nat → Nat} {G : Nat → Nat → Nat} (w : WF g G) : dS g G ≤ 2160 := sumN_le 3 0 (fun x _ _ => mbg_le w x)
def dty (g : Nat → Nat) (G : Nat → Nat → Nat) (p : Nat) : Nat := dS g G * G 1 p
theorem dty_le {g : Nat → Nat} {G : Nat → Nat → Nat} (w : WF g G) {p : Nat} (hp : p < g 0) : dty g G p ≤ 19440 := by
  have h1 := dS_le w
  have h2 := (w.2.2.2.2.2.2.2.1 p hp).2.1
  calc _ ≤ 2160 * 9 := Nat.mul_le_mul h1 h2
    _ = 19440 := rfl
section XE
variable {BI : Nat → Int32} {BA : Nat → Nat → Int32} {g : Nat → Nat} {G : Nat → Nat → Nat}
theorem x_minutesByGrade (V : VX BI BA g G) (w : WF g G) {who : Nat} (hw : who < 3) : f_X0_minutesByGrade BI BA (nI who) = some (nI (mbg g G who)) := by
  unfold f_X0_minutesByGrade
  have h := x_mg V w hw (fun el2_7 el3_7 el4_7 => some ((if (0 : Int32) < (el2_7 - (BI 11)) then (el2_7 - (BI 11)) else (0 : Int32)) * el3_7)) (g 3) 1000 0 0 0 (by omega) (by have := w.2.1; omega) (by omega)
  refine h.trans ?_
  have hm := mgF_le w who (g 3) 0 0 0 (by omega) (by omega)
  have w3 := w.2.1
  have w11 := w.2.2.2.2.1
  rw [V.2.2.2.2.1, li0, s_subc (by omega) (by omega), s_mul]
  rfl
theorem x_dbr (V : VX BI BA g G) (w : WF g G) (kk : Int32 → Int32 → Option Int32) : ∀ d fuel k t, k + d = 3 → d < fuel → lp_X0_dutyByRate_4 kk BI BA fuel (nI t) (nI k) = kk (nI (t + sumN (mbg g G) d k)) (nI 3) := by
  intro d
  induction d with
  | zero =>
    intro fuel k t hk hf
    obtain ⟨f, rfl⟩ : ∃ f, fuel = f + 1 := ⟨fuel - 1, by omega⟩
    unfold lp_X0_dutyByRate_4
    rw [show k = 3 by omega]
    rfl
  | succ d ih =>
    intro fuel k t hk hf
    obtain ⟨f, rfl⟩ : ∃ f, fuel = f + 1 := ⟨fuel - 1, by omega⟩
    unfold lp_X0_dutyByRate_4
    have h3 : ¬ 3 ≤ k := by omega
    simp (discharger := omega) only [li0, li1, li2, li3, li4, li7, li8, li9, li60, s_cl, s_le, s_lt, s_eq, s_add, s_mul, Nat.not_lt_zero, false_or, or_false, ↓reduceIte, ibind, h3, x_minutesByGrade V w (show k < 3 by omega)]
    rw [ih f (k + 1) _ (by omega) (by omega)]
    simp only [sumN, Nat.add_assoc]
theorem x_dutyByRate (V : VX BI BA g G) (w : WF g G) (r : Nat) : f_X0_dutyByRate BI BA (nI r) = some (nI (dS g G * r)) := by
  unfold f_X0_dutyByRate
  have h := x_dbr V w (fun el2_4 el3_4 => some (el2_4 * (nI r))) 3 1000 0 0 rfl (by decide)
  refine h.trans ?_
  rw [s_mul, Nat.zero_add]
  rfl
theorem x_dutyAt (V : VX BI BA g G) (w : WF g G) {p : Nat} (hp : p < g 0) : f_X0_dutyAt BI BA (nI p) = some (nI (dty g G p)) := by
  unfold f_X0_dutyAt
  have w0 := w.1
  have h4 : ¬ 4 ≤ p := by omega
  simp (discharger := omega) only [li0, li1, li2, li3, li4, li7, li8, li9, li60, s_cl, s_le, s_lt, s_eq, s_add, s_mul, Nat.not_lt_zero, false_or, or_false, ↓reduceIte, ibind, h4, (V.2.2.2.2.2.2.2.1 p hp).1, x_dutyByRate V w]
  rfl
end XE
section ME
variable {MI : Nat → Int32} {MA : Nat → Nat → Int32} {g : Nat → Nat} {G : Nat → Nat → Nat}
theorem m_mg (V : VM MI MA g G) (w : WF g G) {who : Nat} (hw : who < 3) (kk : Int32 → Int32 → Int32 → Option Int32) : ∀ d fuel k t r, k + d = g 3 → d < fuel → r ≤ 20 → lp_X5_dutyOf_8 kk MI MA (nI who) fuel (nI t) (nI r) (nI k) = kk (nI (mgF g G who d k t r).1) (nI (mgF g G who d k t r).2) (nI (g 3)) := by
  have V0 := V
  have w0' := w
  obtain ⟨h0, h3, h9, h10, h11, h12, h13, hp, hs, hc, hr⟩ := V
  obtain ⟨w0, w3, w9, w10, w11, w12, w13, wp, ws, wc, wr⟩ := w
  intro d
  induction d with
  | zero =>
    intro fuel k t r hk hf hr
    obtain ⟨f, rfl⟩ : ∃ f, fuel = f + 1 := ⟨fuel - 1, by omega⟩
    unfold lp_X5_dutyOf_8
    rw [h3, show k = g 3 by omega]
    simp [mgF, s_le (show g 3 < 2147483648 by omega) (show g 3 < 2147483648 by omega)]
  | succ d ih =>
    intro fuel k t r hk hf hr
    obtain ⟨f, rfl⟩ : ∃ f, fuel = f + 1 := ⟨fuel - 1, by omega⟩
    have hk3 : k < g 3 := by omega
    have hk3' : ¬ g 3 ≤ k := by omega
    have hk4 : ¬ 4 ≤ k := by omega
    have hs := hs k hk3
    have ws := ws k hk3
    have hb1 := bitN_lt (g 9) k
    have hb2 := dutV_lt g G k
    have hgr := grN_le (kd := G 4 k) ws.2.2.1
    unfold lp_X5_dutyOf_8 mgF
    rw [h3, h9]
    simp (discharger := omega) only [li0, li1, li2, li3, li4, li7, li8, li9, li60, s_cl, s_le, s_lt, s_eq, s_add, s_mul, Nat.not_lt_zero, false_or, or_false, ↓reduceIte, ibind, hk4, hk3', hs.1, hs.2.1, hs.2.2.1, hs.2.2.2, m_isIn (show g 9 < 2147483648 by omega) (show k < 32 by omega), m_isDutiable V0 w0' hk3, m_gradeOf V0 w0' hk3]
    by_cases c1 : G 7 k = who
    · rw [if_pos c1]
      by_cases c3 : bitN (g 9) k = 0
      · rw [if_pos c3, if_neg (by omega)]
        exact ih f (k + 1) t r (by omega) (by omega) hr
      · rw [if_neg c3]
        by_cases c4 : dutV g G k = 0
        · rw [if_pos c4, if_neg (by omega)]
          exact ih f (k + 1) t r (by omega) (by omega) hr
        · have hq : G 7 k = who ∧ bitN (g 9) k = 1 ∧ dutV g G k = 1 := ⟨c1, by omega, by omega⟩
          rw [if_neg c4, if_pos hq]
          by_cases c5 : grN (G 4 k) (G 6 k) ≤ r
          · rw [if_pos c5, if_neg (by omega)]
            exact ih f (k + 1) _ _ (by omega) (by omega) hr
          · rw [if_neg c5, if_pos (by omega)]
            exact ih f (k + 1) _ _ (by omega) (by omega) hgr
    · rw [if_neg c1, if_neg (fun q => c1 q.1)]
      exact ih f (k + 1) t r (by omega) (by omega) hr
theorem m_dutyOf (V : VM MI MA g G) (w : WF g G) {p who : Nat} (hp : p < g 0) (hw : who < 3) : f_X5_dutyOf MI MA (nI p) (nI who) = some (nI (mbg g G who * G 1 p)) := by
  unfold f_X5_dutyOf
  have w0 := w.1
  have w3 := w.2.1
  have w11 := w.2.2.2.2.1
  have h := m_mg V w hw (fun el3_8 el4_8 el5_8 => if el3_8 ≤ (MI 11) then (some (0 : Int32)) else (if (nI p) < 0 ∨ 4 ≤ (nI p).toNatClampNeg then none else (some (((el3_8 - (MI 11)) * el4_8) * (MA 2 (nI p).toNatClampNeg))))) (g 3) 1000 0 0 0 (by omega) (by omega) (by omega)
  refine h.trans ?_
  have hm := mgF_le w who (g 3) 0 0 0 (by omega) (by omega)
  have h4 : ¬ 4 ≤ p := by omega
  unfold mbg
  rw [V.2.2.2.2.1]
  simp (discharger := omega) only [li0, li1, li2, li3, li4, li7, li8, li9, li60, s_cl, s_le, s_lt, s_eq, s_add, s_mul, Nat.not_lt_zero, false_or, or_false, ↓reduceIte, ibind, h4, (V.2.2.2.2.2.2.2.1 p hp).1]
  by_cases c : (mgF g G who (g 3) 0 0 0).1 ≤ g 11
  · rw [if_pos c, Nat.sub_eq_zero_of_le c, Nat.zero_mul, Nat.zero_mul]
  · rw [if_neg c, pk_sub (by omega), s_mul, s_mul]
theorem m_dac (V : VM MI MA g G) (w : WF g G) {p : Nat} (hp : p < g 0) (kk : Int32 → Int32 → Option Int32) : ∀ d fuel k t, k + d = 3 → d < fuel → lp_X5_dutyAt_4 kk MI MA (nI p) fuel (nI t) (nI k) = kk (nI (t + sumN (fun x => mbg g G x * G 1 p) d k)) (nI 3) := by
  intro d
  induction d with
  | zero =>
    intro fuel k t hk hf
    obtain ⟨f, rfl⟩ : ∃ f, fuel = f + 1 := ⟨fuel - 1, by omega⟩
    unfold lp_X5_dutyAt_4
    rw [show k = 3 by omega]
    rfl
  | succ d ih =>
    intro fuel k t hk hf
    obtain ⟨f, rfl⟩ : ∃ f, fuel = f + 1 := ⟨fuel - 1, by omega⟩
    unfold lp_X5_dutyAt_4
    have h3 : ¬ 3 ≤ k := by omega
    simp (discharger := omega) only [li0, li1, li2, li3, li4, li7, li8, li9, li60, s_cl, s_le, s_lt, s_eq, s_add, s_mul, Nat.not_lt_zero, false_or, or_false, ↓reduceIte, ibind, h3, m_dutyOf V w hp (show k < 3 by omega)]
    rw [ih f (k + 1) _ (by omega) (by omega)]
    simp only [sumN, Nat.add_assoc]
theorem m_dutyAt (V : VM MI MA g G) (w : WF g G) {p : Nat} (hp : p < g 0) : f_X5_dutyAt MI MA (nI p) = some (nI (dty g G p)) := by
  unfold f_X5_dutyAt
  have h := m_dac V w hp (fun el2_4 el3_4 => some el2_4) 3 1000 0 0 rfl (by decide)
  refine h.trans ?_
  rw [Nat.zero_add, sumN_mul]
  rfl
end ME
