/-! the class's small reads -/
section XC
variable {BI : Nat → Int32} {BA : Nat → Nat → Int32} {g : Nat → Nat} {G : Nat → Nat → Nat}
theorem x_isDeclared (V : VX BI BA g G) (w : WF g G) {k : Nat} (hk : k < 4) : f_X0_isDeclared BI (nI k) = some (nI (bitN (g 9) k)) := by
  obtain ⟨h0, h3, h9, h10, h11, h12, h13, hp, hs, hc, hr⟩ := V
  obtain ⟨w0, w3, w9, w10, w11, w12, w13, wp, ws, wc, wr⟩ := w
  unfold f_X0_isDeclared
  rw [h9, bit_tst (by omega) (by omega)]
  have := bitN_lt (g 9) k
  simp (discharger := omega) only [li0, li1, li2, li3, li4, li7, li8, li9, li60, s_cl, s_le, s_lt, s_eq, s_add, s_mul, Nat.not_lt_zero, false_or, or_false, ↓reduceIte, ibind]
  split
  · next h => rw [h]
  · next h => rw [show bitN (g 9) k = 1 by omega]
theorem x_isDutiable (V : VX BI BA g G) (w : WF g G) {k : Nat} (hk : k < g 3) : f_X0_isDutiable BI BA (nI k) = some (nI (bitN (g 10) (G 4 k))) := by
  obtain ⟨h0, h3, h9, h10, h11, h12, h13, hp, hs, hc, hr⟩ := V
  obtain ⟨w0, w3, w9, w10, w11, w12, w13, wp, ws, wc, wr⟩ := w
  have hs := hs k hk
  have ws := ws k hk
  unfold f_X0_isDutiable
  rw [if_neg (nI_in (N := 4) (by omega) (by decide)), s_cl (by omega), h10, hs.1, bit_tst (by omega) (by omega)]
  have := bitN_lt (g 10) (G 4 k)
  simp (discharger := omega) only [li0, li1, li2, li3, li4, li7, li8, li9, li60, s_cl, s_le, s_lt, s_eq, s_add, s_mul, Nat.not_lt_zero, false_or, or_false, ↓reduceIte, ibind]
  split
  · next h => rw [h]
  · next h => rw [show bitN (g 10) (G 4 k) = 1 by omega]
theorem x_gradeOf (V : VX BI BA g G) (w : WF g G) {k : Nat} (hk : k < g 3) : f_X0_gradeOf BA (nI k) = some (nI (grN (G 4 k) (G 6 k))) := by
  obtain ⟨h0, h3, h9, h10, h11, h12, h13, hp, hs, hc, hr⟩ := V
  obtain ⟨w0, w3, w9, w10, w11, w12, w13, wp, ws, wc, wr⟩ := w
  have hs := hs k hk
  have ws := ws k hk
  have hk4 : ¬ 4 ≤ k := by omega
  unfold f_X0_gradeOf grN
  simp (discharger := omega) only [li0, li1, li2, li3, li4, li7, li8, li9, li60, s_cl, s_le, s_lt, s_eq, s_add, s_mul, Nat.not_lt_zero, false_or, or_false, ↓reduceIte, ibind, hk4, hs.1, hs.2.2.1]
  by_cases h1 : G 4 k = 1
  · rw [if_pos h1, if_neg (by omega), if_pos h1]
  · rw [if_neg h1]
    by_cases h2 : G 4 k = 2
    · rw [if_pos h2, if_neg (by omega), if_neg h1]
    · rw [if_neg h2, if_pos (by omega)]
theorem x_weightOf (V : VX BI BA g G) (w : WF g G) {k : Nat} (hk : k < g 3) : f_X0_weightOf BA (nI k) = some (nI (G 5 k * grN (G 4 k) (G 6 k))) := by
  have h := x_gradeOf V w hk
  obtain ⟨h0, h3, h9, h10, h11, h12, h13, hp, hs, hc, hr⟩ := V
  obtain ⟨w0, w3, w9, w10, w11, w12, w13, wp, ws, wc, wr⟩ := w
  have hs := hs k hk
  unfold f_X0_weightOf
  rw [if_neg (nI_in (c := k) (N := 4) (by omega) (by decide)), s_cl (by omega), hs.2.1, h, ibind, s_mul]
end XC
section MC
variable {MI : Nat → Int32} {MA : Nat → Nat → Int32} {g : Nat → Nat} {G : Nat → Nat → Nat}
theorem m_isIn {d k : Nat} (hd : d < 2147483648) (hk : k < 32) : f_X5_isIn (nI d) (nI k) = some (nI (bitN d k)) := by
  unfold f_X5_isIn
  rw [bit_tst hd hk]
  have := bitN_lt d k
  simp (discharger := omega) only [li0, li1, li2, li3, li4, li7, li8, li9, li60, s_cl, s_le, s_lt, s_eq, s_add, s_mul, Nat.not_lt_zero, false_or, or_false, ↓reduceIte, ibind]
  split
  · next h => rw [h]
  · next h => rw [show bitN d k = 0 by omega]
theorem m_gradeOf (V : VM MI MA g G) (w : WF g G) {k : Nat} (hk : k < g 3) : f_X5_gradeOf MA (nI k) = some (nI (grN (G 4 k) (G 6 k))) := by
  obtain ⟨h0, h3, h9, h10, h11, h12, h13, hp, hs, hc, hr⟩ := V
  obtain ⟨w0, w3, w9, w10, w11, w12, w13, wp, ws, wc, wr⟩ := w
  have hs := hs k hk
  have ws := ws k hk
  have hk4 : ¬ 4 ≤ k := by omega
  unfold f_X5_gradeOf grN
  simp (discharger := omega) only [li0, li1, li2, li3, li4, li7, li8, li9, li60, s_cl, s_le, s_lt, s_eq, s_add, s_mul, Nat.not_lt_zero, false_or, or_false, ↓reduceIte, ibind, hk4, hs.1, hs.2.2.1]
  by_cases h1 : G 4 k = 0
  · rw [if_pos h1, if_pos h1]
  · rw [if_neg h1, if_neg h1]
    by_cases h2 : G 4 k = 1
    · rw [if_pos h2, if_pos h2]
    · rw [if_neg h2, if_neg h2]
def dutV (g : Nat → Nat) (G : Nat → Nat → Nat) (k : Nat) : Nat := if k = g 12 then 0 else bitN (g 10) (G 4 k)
theorem dutV_lt (g : Nat → Nat) (G : Nat → Nat → Nat) (k : Nat) : dutV g G k < 2 := by
  unfold dutV
  split
  · decide
  · exact bitN_lt _ _
theorem m_isDutiable (V : VM MI MA g G) (w : WF g G) {k : Nat} (hk : k < g 3) : f_X5_isDutiable MI MA (nI k) = some (nI (dutV g G k)) := by
  obtain ⟨h0, h3, h9, h10, h11, h12, h13, hp, hs, hc, hr⟩ := V
  obtain ⟨w0, w3, w9, w10, w11, w12, w13, wp, ws, wc, wr⟩ := w
  have hs := hs k hk
  have ws := ws k hk
  have hk4 : ¬ 4 ≤ k := by omega
  have hb := bitN_lt (g 10) (G 4 k)
  unfold f_X5_isDutiable dutV
  rw [h12]
  simp (discharger := omega) only [li0, li1, li2, li3, li4, li7, li8, li9, li60, s_cl, s_le, s_lt, s_eq, s_add, s_mul, Nat.not_lt_zero, false_or, or_false, ↓reduceIte, ibind, hk4, h10, hs.1, low_eq (show k < 4 by omega) w12, m_isIn (show g 10 < 2147483648 by omega) (show G 4 k < 32 by omega)]
  by_cases h : k = g 12
  · rw [if_pos h, if_pos h]
  · rw [if_neg h, if_neg h]
    split
    · next h => rw [h]
    · next h => rw [show bitN (g 10) (G 4 k) = 1 by omega]
end MC
