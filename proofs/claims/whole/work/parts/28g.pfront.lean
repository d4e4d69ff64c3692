/-! the text of a frontier: one place after another -/
def cdF (ce : Nat → Int32) (i n x : Nat) : Int32 := if x < n then ce (i + x) else -9
theorem x_code {ce : Nat → Int32} {i n s x : Nat} (hin : i + n ≤ s) (hs : s ≤ 60) (hx : x ≤ 60) : f_X2_code (nI i) (nI n) (nI x) (nI s) ce = some (cdF ce i n x) := by
  unfold f_X2_code f_X2_codeAt f_X1_hasCell cdF
  by_cases q : x < n
  · rw [if_neg (show ¬ nI n ≤ nI x by rw [s_le (by omega) (by omega)]; omega), if_pos q, s_add, if_neg (nI_pos (show i + x < 2147483648 by omega)), if_neg (show ¬ nI s ≤ nI (i + x) by rw [s_le (by omega) (by omega)]; omega), ibn, if_neg i10, s_cl (show i + x < 2147483648 by omega), if_neg (gdc (show i + x < 60 by omega) (by decide)), ibn]
  · rw [if_pos (show nI n ≤ nI x by rw [s_le (by omega) (by omega)]; omega), if_neg q]
theorem t_y {ce : Nat → Int32} {i n s x : Nat} (hin : i + n ≤ s) (hs : s ≤ 60) (hx : x ≤ 60) {lo hi : Int32} (h1 : ¬ cdF ce i n x < lo) (h2 : cdF ce i n x ≤ hi) : f_X2_takes (nI i) (nI n) (nI x) (nI s) ce lo hi = some (1, nI (x + 1)) := by
  unfold f_X2_takes
  rw [x_code hin hs hx, ibn, if_neg h1, if_pos h2, nI_1]
theorem t_n {ce : Nat → Int32} {i n s x : Nat} (hin : i + n ≤ s) (hs : s ≤ 60) (hx : x ≤ 60) {lo hi : Int32} (h : cdF ce i n x < lo ∨ ¬ cdF ce i n x ≤ hi) : f_X2_takes (nI i) (nI n) (nI x) (nI s) ce lo hi = some (0, nI x) := by
  unfold f_X2_takes
  rw [x_code hin hs hx, ibn]
  by_cases h1 : cdF ce i n x < lo
  · rw [if_pos h1]
  · rw [if_neg h1, if_neg (h.resolve_left h1)]
theorem x_dig {ce : Nat → Int32} {i n s x v k : Nat} (hin : i + n ≤ s) (hs : s ≤ 60) (hx : x < n) (hv : cdF ce i n x = nI (48 + v)) : f_X2_digitBefore (nI i) (nI (x + k)) (nI s) ce (nI k) = some (nI v) := by
  unfold f_X2_digitBefore f_X2_codeAt f_X1_hasCell
  unfold cdF at hv
  rw [if_pos hx] at hv
  rw [pk_sub (by omega), Nat.add_sub_cancel, s_add, if_neg (nI_pos (show i + x < 2147483648 by omega)), if_neg (show ¬ nI s ≤ nI (i + x) by rw [s_le (by omega) (by omega)]; omega), ibn, if_neg i10, s_cl (show i + x < 2147483648 by omega), if_neg (gdc (show i + x < 60 by omega) (by decide)), ibn, hv, show (48 : Int32) = nI 48 from rfl, pk_sub (by omega), Nat.add_sub_cancel_left]
theorem cd_lt {ce : Nat → Int32} {i n x : Nat} (h : ¬ cdF ce i n x < 0) : x < n := by
  unfold cdF at h
  by_cases q : x < n
  · exact q
  · rw [if_neg q] at h
    exact absurd (by decide) h
theorem m_inl (a : Int32) {lo : Nat} (hl : lo ≤ 1) : f_X5_in a.toInt64 (nI lo).toInt64 9 = some (if (lo : Int) ≤ a.toInt ∧ a.toInt ≤ 9 then 1 else 0) := by
  unfold f_X5_in
  have h1 : (lg_cmp a.toInt64 (nI lo).toInt64 < 0) ↔ a.toInt < lo := by
    rw [lg_cmp_lt, Int64.lt_iff_toInt_lt, Int32.toInt_toInt64, Int32.toInt_toInt64, nI_toInt (by omega)]
  have h2 : (0 < lg_cmp a.toInt64 9) ↔ 9 < a.toInt := by
    rw [lg_cmp_gt, Int64.lt_iff_toInt_lt, Int32.toInt_toInt64, show (9 : Int64).toInt = 9 by decide]
  by_cases q1 : a.toInt < lo
  · rw [if_pos (h1.mpr q1), if_neg (by omega)]
  · rw [if_neg (fun h => q1 (h1.mp h))]
    by_cases q2 : 9 < a.toInt
    · rw [if_pos (h2.mpr q2), if_neg (by omega)]
    · rw [if_neg (fun h => q2 (h2.mp h)), if_pos (by omega)]
/-- a figure, or none -/
theorem dgc (c : Int32) {lo : Nat} (hl : lo ≤ 1) : (∃ v, lo ≤ v ∧ v ≤ 9 ∧ c = nI (48 + v) ∧ f_X5_in (c - 48).toInt64 (nI lo).toInt64 9 = some 1) ∨ ((c < nI (48 + lo) ∨ ¬ c ≤ 57) ∧ f_X5_in (c - 48).toInt64 (nI lo).toInt64 9 = some 0) := by
  rw [m_inl _ hl]
  by_cases q : (lo : Int) ≤ (c - 48).toInt ∧ (c - 48).toInt ≤ 9
  · left
    obtain ⟨v, hv, e⟩ := toI_ex (a := c - 48) (N := 10) (by omega) (by omega)
    rw [e, nI_toInt (by omega)] at q
    refine ⟨v, by omega, by omega, ?_, ?_⟩
    · rw [← nI_add, ← e, show nI 48 = (48 : Int32) from rfl, Int32.add_comm, Int32.sub_add_cancel]
    · rw [e, nI_toInt (by omega), if_pos q]
  · right
    rw [if_neg q]
    refine ⟨?_, rfl⟩
    by_cases q1 : c < nI (48 + lo)
    · exact Or.inl q1
    · right
      intro q2
      rw [Int32.lt_iff_toInt_lt, nI_toInt (by omega)] at q1
      rw [Int32.le_iff_toInt_le, show (57 : Int32).toInt = 57 by decide] at q2
      obtain ⟨v, hv, e⟩ := toI_ex (a := c) (N := 58) (by omega) (by omega)
      rw [e, nI_toInt (by omega)] at q1 q2
      rw [e, show (48 : Int32) = nI 48 from rfl, pk_sub (by omega), nI_toInt (by omega)] at q
      omega
def ag (MI MI' : Nat → Int32) : Prop := ∀ q, ¬ (14 ≤ q ∧ q ≤ 17) → MI' q = MI q
def agA (MA MA' : Nat → Nat → Int32) : Prop := ∀ q, ¬ (18 ≤ q ∧ q ≤ 22) → MA' q = MA q
theorem ag_u {MI MI' : Nat → Int32} (h : ag MI MI') {c : Nat} (hc : 14 ≤ c ∧ c ≤ 17) (v : Int32) : ag MI (upd MI' c v) := by
  intro q hq
  rw [uu_n _ _ (show q ≠ c by omega)]
  exact h q hq
theorem agA_u {MA MA' : Nat → Nat → Int32} (h : agA MA MA') {c : Nat} (hc : 18 ≤ c ∧ c ≤ 22) (v : Nat → Int32) : agA MA (va_up MA' c v) := by
  intro q hq
  rw [vv_n _ _ (show q ≠ c by omega)]
  exact h q hq
theorem VM_ag {MI MI' : Nat → Int32} {MA MA' : Nat → Nat → Int32} {g : Nat → Nat} {G : Nat → Nat → Nat} (V : VM MI MA g G) (h : ag MI MI') (hA : agA MA MA') : VM MI' MA' g G := by
  unfold VM
  rw [h 1 (by omega), h 4 (by omega), h 10 (by omega), h 12 (by omega), h 11 (by omega), h 13 (by omega), h 26 (by omega), hA 2 (by omega), hA 3 (by omega), hA 5 (by omega), hA 6 (by omega), hA 7 (by omega), hA 8 (by omega), hA 9 (by omega), hA 27 (by omega), hA 28 (by omega)]
  exact V
theorem RS_ag {MA MA' : Nat → Nat → Int32} {LN SZ : Nat → Int32} {CE : Nat → Nat → Int32} (S : RS LN SZ CE MA) (hA : agA MA MA') : RS LN SZ CE MA' := by
  unfold RS
  rw [hA 29 (by omega), hA 30 (by omega), hA 31 (by omega)]
  exact S
