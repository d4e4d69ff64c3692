/-! pack: the cheapest row of carriers -/
def dgt (n r k : Nat) : Nat := r / 3 ^ (n - 1 - k) % 3
theorem dgt_le (n r k : Nat) : dgt n r k ≤ 2 := by
  have := Nat.mod_lt (r / 3 ^ (n - 1 - k)) (show 0 < 3 by decide)
  unfold dgt
  omega
def setN (z : Nat → Int32) (n r : Nat) : Nat → Int32 := fun k => if k < n then nI (dgt n r k) else z k
theorem setN_in (z : Nat → Int32) {n k : Nat} (r : Nat) (h : k < n) : setN z n r k = nI (dgt n r k) := if_pos h
theorem setN_set (z : Nat → Int32) (n r r' : Nat) : setN (setN z n r) n r' = setN z n r' := by
  funext k
  unfold setN
  by_cases h : k < n
  · rw [if_pos h, if_pos h]
  · rw [if_neg h, if_neg h, if_neg h]
theorem setN_0 (z : Nat → Int32) (r : Nat) : setN z 0 r = z := by
  funext k
  unfold setN
  rw [if_neg (Nat.not_lt_zero _)]
theorem setN_step (z : Nat → Int32) (n r : Nat) : setN (upd z n (nI (r % 3))) n (r / 3) = setN z (n + 1) r := by
  funext k
  unfold setN dgt upd
  by_cases h : k < n
  · rw [if_pos h, if_pos (by omega), Nat.div_div_eq_div_mul, show n + 1 - 1 - k = (n - 1 - k) + 1 by omega, Nat.pow_succ, Nat.mul_comm]
  · rw [if_neg h]
    by_cases e : k = n
    · subst e
      rw [if_pos rfl, if_pos (by omega), show k + 1 - 1 - k = 0 by omega, Nat.pow_zero, Nat.div_one]
    · rw [if_neg e, if_neg (by omega)]
def cw (f : Nat → Nat) : Nat → Nat
  | 0 => 0
  | j + 1 => cw f j * 3 + f j
theorem cw_div (f : Nat → Nat) {n : Nat} (hf : ∀ k, k < n → f k ≤ 2) : ∀ d, d ≤ n → cw f n / 3 ^ d = cw f (n - d) := by
  intro d
  induction d with
  | zero => intro _; rw [Nat.pow_zero, Nat.div_one, Nat.sub_zero]
  | succ d ih =>
    intro hd
    rw [Nat.pow_succ, ← Nat.div_div_eq_div_mul, ih (by omega), show n - d = (n - (d + 1)) + 1 by omega]
    have := hf (n - (d + 1)) (by omega)
    show (cw f (n - (d + 1)) * 3 + f (n - (d + 1))) / 3 = cw f (n - (d + 1))
    omega
theorem cw_dgt (f : Nat → Nat) {n : Nat} (hf : ∀ k, k < n → f k ≤ 2) {k : Nat} (hk : k < n) : dgt n (cw f n) k = f k := by
  unfold dgt
  rw [cw_div f hf _ (by omega), show n - (n - 1 - k) = k + 1 by omega]
  have := hf k hk
  show (cw f k * 3 + f k) % 3 = f k
  omega
theorem cw_lt (f : Nat → Nat) {n : Nat} (hf : ∀ k, k < n → f k ≤ 2) : ∀ j, j ≤ n → cw f j < 3 ^ j := by
  intro j
  induction j with
  | zero => intro _; exact (show 0 < 3 ^ 0 by decide)
  | succ j ih =>
    intro hj
    have h1 := ih (by omega)
    have h2 := hf j (by omega)
    rw [Nat.pow_succ]
    show cw f j * 3 + f j < 3 ^ j * 3
    omega
theorem p3_le {n : Nat} (h : n ≤ 4) : 3 ^ n ≤ 81 := by
  rcases (show n = 0 ∨ n = 1 ∨ n = 2 ∨ n = 3 ∨ n = 4 by omega) with rfl | rfl | rfl | rfl | rfl <;> decide
def Gd (G : Nat → Nat → Nat) (n r : Nat) : Nat → Nat → Nat := va_up G 7 (dgt n r)
def dA (g : Nat → Nat) (G : Nat → Nat → Nat) : Nat := dS g G * sumN (G 1) (g 0) 0
theorem li3' : (3 : Int32) = nI 3 := rfl
section PK
variable {BI : Nat → Int32} {BA : Nat → Nat → Int32} {MI : Nat → Int32} {MA : Nat → Nat → Int32} {g : Nat → Nat} {G : Nat → Nat → Nat} {LN SZ : Nat → Int32} {CE : Nat → Nat → Int32} {tr fa : Int32}
theorem VX_d (V : VX BI BA g G) (z : Nat → Int32) (r : Nat) : VX BI (va_up BA 7 (setN z (g 3) r)) g (Gd G (g 3) r) := by
  obtain ⟨h0, h3, h9, h10, h11, h12, h13, hp, hs, hc, hr⟩ := V
  refine ⟨h0, h3, h9, h10, h11, h12, h13, fun p hp' => ?_, fun x hx => ?_, fun c hc' => ?_, fun x hx => ?_⟩
  · simpa [va_up, Gd] using hp p hp'
  · have h := hs x hx
    refine ⟨h.1, h.2.1, h.2.2.1, ?_⟩
    rw [vv_s, setN_in _ _ hx]
    rfl
  · simpa [va_up, Gd] using hc c hc'
  · simpa [va_up, Gd] using hr x hx
theorem WF_d (w : WF g G) (r : Nat) : WF g (Gd G (g 3) r) := by
  obtain ⟨w0, w3, w9, w10, w11, w12, w13, wp, ws, wc, wr⟩ := w
  refine ⟨w0, w3, w9, w10, w11, w12, w13, wp, fun x hx => ?_, wc, wr⟩
  have h := ws x hx
  exact ⟨h.1, h.2.1, h.2.2.1, dgt_le _ _ _⟩
def M3 (MA : Nat → Nat → Int32) (s t z : Nat → Int32) : Nat → Nat → Int32 := va_up (va_up (va_up MA 24 s) 25 t) 8 z
theorem M3_8 (s t z : Nat → Int32) : M3 MA s t z 8 = z := rfl
theorem M3_24 (s t z : Nat → Int32) : M3 MA s t z 24 = s := rfl
theorem M3_25 (s t z : Nat → Int32) : M3 MA s t z 25 = t := rfl
theorem M3_u8 (s t z z' : Nat → Int32) : va_up (M3 MA s t z) 8 z' = M3 MA s t z' := vv_v _ _ _ _
theorem va_cm {α : Type} (f : Nat → α) {a b : Nat} (x y : α) (h : a ≠ b) : va_up (va_up f a x) b y = va_up (va_up f b y) a x := by
  funext q
  unfold va_up
  by_cases h1 : q = b
  · subst h1
    rw [if_pos rfl, if_neg (Ne.symm h), if_pos rfl]
  · rw [if_neg h1, if_neg h1]
theorem M3_u25 (s t z t' : Nat → Int32) : va_up (M3 MA s t z) 25 t' = M3 MA s t' z := by
  unfold M3
  rw [va_cm _ _ _ (show (8 : Nat) ≠ 25 by decide), vv_v]
theorem M3_u24 (s t z s' : Nat → Int32) : va_up (M3 MA s t z) 24 s' = M3 MA s' t z := by
  unfold M3
  rw [va_cm _ _ _ (show (8 : Nat) ≠ 24 by decide), va_cm _ _ _ (show (25 : Nat) ≠ 24 by decide), vv_v]
theorem M3_self : M3 MA (MA 24) (MA 25) (MA 8) = MA := by
  unfold M3
  rw [vv_self, vv_self, vv_self]
theorem VM_d (V : VM MI MA g G) (s t z : Nat → Int32) (r : Nat) : VM MI (M3 MA s t (setN z (g 3) r)) g (Gd G (g 3) r) := by
  obtain ⟨h0, h3, h9, h10, h11, h12, h13, hp, hs, hc, hr⟩ := V
  refine ⟨h0, h3, h9, h10, h11, h12, h13, fun p hp' => ?_, fun x hx => ?_, fun c hc' => ?_, fun x hx => ?_⟩
  · simpa [M3, va_up, Gd] using hp p hp'
  · have h := hs x hx
    refine ⟨h.1, h.2.1, h.2.2.1, ?_⟩
    rw [M3_8, setN_in _ _ hx]
    rfl
  · simpa [M3, va_up, Gd] using hc c hc'
  · simpa [M3, va_up, Gd] using hr x hx
theorem x_set1 (kk : Int32 → Int32 → (Nat → Nat → Int32) → Option (Nat → Nat → Int32)) : ∀ j fuel v z, j ≤ 4 → j < fuel → v < 2147483648 → ∃ a b, lp_X0_setCarrierRow_9 kk fuel (nI v) (nI j + (-1)) (va_up BA 7 z) = kk a b (va_up BA 7 (setN z j v)) := by
  intro j
  induction j with
  | zero =>
    intro fuel v z hj hf hv
    obtain ⟨f, rfl⟩ : ∃ f, fuel = f + 1 := ⟨fuel - 1, by omega⟩
    unfold lp_X0_setCarrierRow_9
    rw [if_pos (by decide), setN_0]
    exact ⟨_, _, rfl⟩
  | succ j ih =>
    intro fuel v z hj hf hv
    obtain ⟨f, rfl⟩ : ∃ f, fuel = f + 1 := ⟨fuel - 1, by omega⟩
    unfold lp_X0_setCarrierRow_9
    have e : nI (j + 1) + (-1) = nI j := by rw [← nI_1]; exact (by rw [Int32.add_assoc]; exact Int32.add_zero _)
    rw [e, if_neg (nI_pos (show j < 2147483648 by omega)), if_neg (show ¬ (3 : Int32) = 0 by decide), if_neg (show ¬ (3 : Int32) = 0 by decide), s_cl (show j < 2147483648 by omega), if_neg (gdc (show j < 4 by omega) (by decide)), li3, pk_rem hv (by decide) (by decide), pk_div hv (by decide) (by decide), vv_s, vv_v]
    obtain ⟨a, b, h⟩ := ih f (v / 3) (upd z j (nI (v % 3))) (by omega) (by omega) (by omega)
    rw [h, setN_step]
    exact ⟨_, _, rfl⟩
theorem x_set (V : VX BI BA g G) (w : WF g G) (z : Nat → Int32) {v : Nat} (hv : v < 2147483648) (h3 : 0 < g 3) : f_X0_setCarrierRow BI (va_up BA 7 z) (nI v) = some (va_up BA 7 (setN z (g 3) v)) := by
  have w3 := w.2.1
  unfold f_X0_setCarrierRow
  generalize hfu : 1000 = fu
  obtain ⟨a, b, h⟩ := x_set1 (BA := BA) (fun el2_9 el3_9 eBA_9 => some eBA_9) (g 3) fu v z w3 (by omega) hv
  rw [V.2.1, show nI (g 3) - 1 = nI (g 3) + (-1) from Int32.sub_eq_add_neg _ _, h]
theorem m_set1 (kk : Int32 → Int32 → (Nat → Nat → Int32) → Option (Int32 × (Nat → Nat → Int32))) (s t : Nat → Int32) : ∀ j fuel v z, j ≤ 4 → j < fuel → v < 2147483648 → ∃ a b, lp_X5_pack_75 kk fuel (nI v) (nI j + (-1)) (M3 MA s t z) = kk a b (M3 MA s t (setN z j v)) := by
  intro j
  induction j with
  | zero =>
    intro fuel v z hj hf hv
    obtain ⟨f, rfl⟩ : ∃ f, fuel = f + 1 := ⟨fuel - 1, by omega⟩
    unfold lp_X5_pack_75
    rw [if_pos (by decide), setN_0]
    exact ⟨_, _, rfl⟩
  | succ j ih =>
    intro fuel v z hj hf hv
    obtain ⟨f, rfl⟩ : ∃ f, fuel = f + 1 := ⟨fuel - 1, by omega⟩
    unfold lp_X5_pack_75
    have e : nI (j + 1) + (-1) = nI j := by rw [← nI_1]; exact (by rw [Int32.add_assoc]; exact Int32.add_zero _)
    rw [e, if_neg (nI_pos (show j < 2147483648 by omega)), if_neg (show ¬ (3 : Int32) = 0 by decide), if_neg (show ¬ (3 : Int32) = 0 by decide), s_cl (show j < 2147483648 by omega), if_neg (gdc (show j < 4 by omega) (by decide)), li3, pk_rem hv (by decide) (by decide), pk_div hv (by decide) (by decide), M3_8, M3_u8]
    obtain ⟨a, b, h⟩ := ih f (v / 3) (upd z j (nI (v % 3))) (by omega) (by omega) (by omega)
    rw [h, setN_step]
    exact ⟨_, _, rfl⟩
theorem x_row1 (V : VX BI BA g G) (w : WF g G) (kk : Int32 → Int32 → Option Int32) : ∀ d fuel k, k + d = g 3 → d < fuel → lp_X0_carrierRow_4 kk BI BA fuel (nI (cw (G 7) k)) (nI k) = kk (nI (cw (G 7) (g 3))) (nI (g 3)) := by
  have w3 := w.2.1
  intro d
  induction d with
  | zero =>
    intro fuel k hk hf
    obtain ⟨f, rfl⟩ : ∃ f, fuel = f + 1 := ⟨fuel - 1, by omega⟩
    unfold lp_X0_carrierRow_4
    rw [V.2.1, show k = g 3 by omega, if_pos (by rw [s_le (by omega) (by omega)]; omega)]
  | succ d ih =>
    intro fuel k hk hf
    obtain ⟨f, rfl⟩ : ∃ f, fuel = f + 1 := ⟨fuel - 1, by omega⟩
    unfold lp_X0_carrierRow_4
    have hs := V.2.2.2.2.2.2.2.2.1 k (by omega)
    rw [V.2.1, if_neg (by rw [s_le (by omega) (by omega)]; omega), s_cl (show k < 2147483648 by omega), if_neg (gdc (show k < 4 by omega) (by decide)), hs.2.2.2, li3, s_mul, s_add, nI_1]
    exact ih f (k + 1) (by omega) (by omega)
theorem x_row (V : VX BI BA g G) (w : WF g G) : f_X0_carrierRow BI BA = some (nI (cw (G 7) (g 3))) := by
  have w3 := w.2.1
  unfold f_X0_carrierRow
  generalize hfu : 1000 = fu
  exact x_row1 V w (fun el1_4 el2_4 => some el1_4) (g 3) fu 0 (by omega) (by omega)
theorem x_rows1 (V : VX BI BA g G) (w : WF g G) (kk : Int32 → Int32 → Option Int32) : ∀ d fuel k, k + d = g 3 → d < fuel → lp_X0_carrierRows_4 kk BI fuel (nI (3 ^ k)) (nI k) = kk (nI (3 ^ g 3)) (nI (g 3)) := by
  have w3 := w.2.1
  intro d
  induction d with
  | zero =>
    intro fuel k hk hf
    obtain ⟨f, rfl⟩ : ∃ f, fuel = f + 1 := ⟨fuel - 1, by omega⟩
    unfold lp_X0_carrierRows_4
    rw [V.2.1, show k = g 3 by omega, if_pos (by rw [s_le (by omega) (by omega)]; omega)]
  | succ d ih =>
    intro fuel k hk hf
    obtain ⟨f, rfl⟩ : ∃ f, fuel = f + 1 := ⟨fuel - 1, by omega⟩
    unfold lp_X0_carrierRows_4
    rw [V.2.1, if_neg (by rw [s_le (by omega) (by omega)]; omega), li3, s_mul, nI_1, ← Nat.pow_succ]
    exact ih f (k + 1) (by omega) (by omega)
theorem x_rows (V : VX BI BA g G) (w : WF g G) : f_X0_carrierRows BI = some (nI (3 ^ g 3)) := by
  have w3 := w.2.1
  unfold f_X0_carrierRows
  generalize hfu : 1000 = fu
  exact x_rows1 V w (fun el1_4 el2_4 => some el1_4) (g 3) fu 0 (by omega) (by omega)
theorem x_da1 (V : VX BI BA g G) (w : WF g G) (kk : Int32 → Int32 → Option Int32) : ∀ d fuel k a, k + d = g 0 → d < fuel → lp_X0_dutyAtAll_4 kk BI BA fuel (nI a) (nI k) = kk (nI (a + sumN (G 1) d k)) (nI (g 0)) := by
  have w0 := w.1
  intro d
  induction d with
  | zero =>
    intro fuel k a hk hf
    obtain ⟨f, rfl⟩ : ∃ f, fuel = f + 1 := ⟨fuel - 1, by omega⟩
    unfold lp_X0_dutyAtAll_4
    rw [V.1, show k = g 0 by omega, if_pos (by rw [s_le (by omega) (by omega)]; omega)]
    rfl
  | succ d ih =>
    intro fuel k a hk hf
    obtain ⟨f, rfl⟩ : ∃ f, fuel = f + 1 := ⟨fuel - 1, by omega⟩
    unfold lp_X0_dutyAtAll_4
    have hs := V.2.2.2.2.2.2.2.1 k (by omega)
    rw [V.1, if_neg (by rw [s_le (by omega) (by omega)]; omega), s_cl (show k < 2147483648 by omega), if_neg (gdc (show k < 4 by omega) (by decide)), hs.1, s_add, nI_1, ih f (k + 1) _ (by omega) (by omega)]
    simp only [sumN]
    rw [Nat.add_assoc]
theorem x_da (V : VX BI BA g G) (w : WF g G) : f_X0_dutyAtAll BI BA = some (nI (dA g G)) := by
  have w0 := w.1
  unfold f_X0_dutyAtAll
  generalize hfu : 1000 = fu
  rw [show (0 : Int32) = nI 0 from rfl, x_da1 V w _ (g 0) fu 0 0 (by omega) (by omega), x_dutyByRate V w, ibn, Nat.zero_add]
  rfl
theorem m_da1 (V : VM MI MA g G) (w : WF g G) (kk : Int32 → Int32 → Option Int32) : ∀ d fuel k a, k + d = g 0 → d < fuel → lp_X5_dutyEverywhere_4 kk MI MA fuel (nI a) (nI k) = kk (nI (a + sumN (dty g G) d k)) (nI (g 0)) := by
  have w0 := w.1
  intro d
  induction d with
  | zero =>
    intro fuel k a hk hf
    obtain ⟨f, rfl⟩ : ∃ f, fuel = f + 1 := ⟨fuel - 1, by omega⟩
    unfold lp_X5_dutyEverywhere_4
    rw [V.1, show k = g 0 by omega, if_pos (by rw [s_le (by omega) (by omega)]; omega)]
    rfl
  | succ d ih =>
    intro fuel k a hk hf
    obtain ⟨f, rfl⟩ : ∃ f, fuel = f + 1 := ⟨fuel - 1, by omega⟩
    unfold lp_X5_dutyEverywhere_4
    rw [V.1, if_neg (by rw [s_le (by omega) (by omega)]; omega), m_dutyAt V w (show k < g 0 by omega), ibn, s_add, nI_1, ih f (k + 1) _ (by omega) (by omega)]
    simp only [sumN]
    rw [Nat.add_assoc]
theorem m_da (V : VM MI MA g G) (w : WF g G) : f_X5_dutyEverywhere MI MA = some (nI (dA g G)) := by
  have w0 := w.1
  unfold f_X5_dutyEverywhere
  generalize hfu : 1000 = fu
  rw [show (0 : Int32) = nI 0 from rfl, m_da1 V w _ (g 0) fu 0 0 (by omega) (by omega), Nat.zero_add]
  have := sumN_mul (G 1) (dS g G) (g 0) 0
  unfold dA
  rw [Nat.mul_comm, ← this]
  have e : (fun x => G 1 x * dS g G) = dty g G := by
    funext x
    unfold dty
    rw [Nat.mul_comm]
  rw [e]
theorem dA_le (w : WF g G) : dA g G ≤ 77760 := by
  have w0 := w.1
  have h1 := dS_le w
  have h2 := sumN_le (f := G 1) (c := 9) (g 0) 0 (fun x _ hx => (w.2.2.2.2.2.2.2.1 x (by omega)).2.1)
  have h3 : sumN (G 1) (g 0) 0 ≤ 36 := by omega
  have h4 := Nat.mul_le_mul h1 h3
  unfold dA
  omega
theorem m_p21 (V : VM MI MA g G) (w : WF g G) (s t z : Nat → Int32) (kk : Int32 → Int32 → (Nat → Nat → Int32) → Option (Int32 × (Nat → Nat → Int32))) : ∀ d fuel x s, x + d = g 3 → d < fuel → lp_X5_pack_21 kk MI fuel (nI (3 ^ x)) (nI x) (M3 MA s t z) = kk (nI (3 ^ g 3)) (nI (g 3)) (M3 MA (bz z s x (g 3)) t z) := by
  have w3 := w.2.1
  intro d
  induction d with
  | zero =>
    intro fuel k s hk hf
    obtain ⟨f, rfl⟩ : ∃ f, fuel = f + 1 := ⟨fuel - 1, by omega⟩
    unfold lp_X5_pack_21
    rw [V.2.1, show k = g 3 by omega, if_pos (by rw [s_le (by omega) (by omega)]; omega), bz_end]
  | succ d ih =>
    intro fuel k s hk hf
    obtain ⟨f, rfl⟩ : ∃ f, fuel = f + 1 := ⟨fuel - 1, by omega⟩
    unfold lp_X5_pack_21
    rw [V.2.1, if_neg (by rw [s_le (by omega) (by omega)]; omega), s_cl (show k < 2147483648 by omega), if_neg (gdc (show k < 4 by omega) (by decide)), if_neg (gdc (show k < 4 by omega) (by decide)), li3, s_mul, nI_1, ← Nat.pow_succ, M3_8, M3_24, M3_u24, ih f (k + 1) _ (by omega) (by omega), bz_step z s (show k < g 3 by omega)]
theorem m_p125 (V : VM MI MA g G) (w : WF g G) (s z : Nat → Int32) (kk : Int32 → (Nat → Nat → Int32) → Option (Int32 × (Nat → Nat → Int32))) : ∀ d fuel x t, x + d = g 3 → d < fuel → lp_X5_pack_125 kk MI fuel (nI x) (M3 MA s t z) = kk (nI (g 3)) (M3 MA s (bz z t x (g 3)) z) := by
  have w3 := w.2.1
  intro d
  induction d with
  | zero =>
    intro fuel k s hk hf
    obtain ⟨f, rfl⟩ : ∃ f, fuel = f + 1 := ⟨fuel - 1, by omega⟩
    unfold lp_X5_pack_125
    rw [V.2.1, show k = g 3 by omega, if_pos (by rw [s_le (by omega) (by omega)]; omega), bz_end]
  | succ d ih =>
    intro fuel k t hk hf
    obtain ⟨f, rfl⟩ : ∃ f, fuel = f + 1 := ⟨fuel - 1, by omega⟩
    unfold lp_X5_pack_125
    rw [V.2.1, if_neg (by rw [s_le (by omega) (by omega)]; omega), s_cl (show k < 2147483648 by omega), if_neg (gdc (show k < 4 by omega) (by decide)), if_neg (gdc (show k < 4 by omega) (by decide)), nI_1, M3_8, M3_25, M3_u25, ih f (k + 1) _ (by omega) (by omega), bz_step z t (show k < g 3 by omega)]
theorem m_p163 (V : VM MI MA g G) (w : WF g G) (s t : Nat → Int32) (kk : Int32 → (Nat → Nat → Int32) → Option (Int32 × (Nat → Nat → Int32))) : ∀ d fuel x z, x + d = g 3 → d < fuel → lp_X5_pack_163 kk MI fuel (nI x) (M3 MA s t z) = kk (nI (g 3)) (M3 MA s t (bz s z x (g 3))) := by
  have w3 := w.2.1
  intro d
  induction d with
  | zero =>
    intro fuel k s hk hf
    obtain ⟨f, rfl⟩ : ∃ f, fuel = f + 1 := ⟨fuel - 1, by omega⟩
    unfold lp_X5_pack_163
    rw [V.2.1, show k = g 3 by omega, if_pos (by rw [s_le (by omega) (by omega)]; omega), bz_end]
  | succ d ih =>
    intro fuel k z hk hf
    obtain ⟨f, rfl⟩ : ∃ f, fuel = f + 1 := ⟨fuel - 1, by omega⟩
    unfold lp_X5_pack_163
    rw [V.2.1, if_neg (by rw [s_le (by omega) (by omega)]; omega), s_cl (show k < 2147483648 by omega), if_neg (gdc (show k < 4 by omega) (by decide)), if_neg (gdc (show k < 4 by omega) (by decide)), nI_1, M3_8, M3_24, M3_u8, ih f (k + 1) _ (by omega) (by omega), bz_step s z (show k < g 3 by omega)]
theorem p57 (V : VM MI MA g G) (w : WF g G) (h3 : 0 < g 3) (km : Int32 → Int32 → (Nat → Nat → Int32) → Option (Int32 × (Nat → Nat → Int32))) (s t zz : Nat → Int32) {r f : Nat} (hr : r < 3 ^ g 3) (l : Int32) : ∃ t', (∀ k, k < g 3 → t' k = nI (dgt (g 3) r k)) ∧ lp_X5_pack_57 km MI (nI (3 ^ g 3)) (f + 1) l (nI r) (M3 MA s t zz) = if l < 0 then lp_X5_pack_57 km MI (nI (3 ^ g 3)) f (nI (dA g (Gd G (g 3) r))) (nI (r + 1)) (M3 MA s t' (setN zz (g 3) r)) else if l ≤ nI (dA g (Gd G (g 3) r)) then lp_X5_pack_57 km MI (nI (3 ^ g 3)) f l (nI (r + 1)) (M3 MA s t (setN zz (g 3) r)) else lp_X5_pack_57 km MI (nI (3 ^ g 3)) f (nI (dA g (Gd G (g 3) r))) (nI (r + 1)) (M3 MA s t' (setN zz (g 3) r)) := by
  have w3 := w.2.1
  have hp := p3_le w3
  refine ⟨bz (setN zz (g 3) r) t 0 (g 3), fun k hk => ?_, ?_⟩
  · rw [bz_i _ _ (by omega), setN_in _ _ hk]
  · rw [lp_X5_pack_57]
    rw [if_neg (show ¬ nI (3 ^ g 3) ≤ nI r by rw [s_le (by omega) (by omega)]; omega), V.2.1, show nI (g 3) - 1 = nI (g 3) + (-1) from Int32.sub_eq_add_neg _ _]
    obtain ⟨a, b, h⟩ := m_set1 (MA := MA) (fun el5_75 el6_75 eMA_75 => Option.bind (f_X5_dutyEverywhere MI eMA_75) fun r104 => if l < 0 then (lp_X5_pack_125 (fun el7_125 eMA_125 => lp_X5_pack_57 km MI (nI (3 ^ g 3)) f r104 ((nI r) + (1 : Int32)) eMA_125) MI 1000 (0 : Int32) eMA_75) else (if l ≤ r104 then (lp_X5_pack_57 km MI (nI (3 ^ g 3)) f l ((nI r) + (1 : Int32)) eMA_75) else (lp_X5_pack_125 (fun el7_125 eMA_125 => lp_X5_pack_57 km MI (nI (3 ^ g 3)) f r104 ((nI r) + (1 : Int32)) eMA_125) MI 1000 (0 : Int32) eMA_75))) s t (g 3) 1000 r zz w3 (by omega) (by omega)
    rw [h, m_da (VM_d V s t zz r) (WF_d w r), ibn, nI_1]
    have h125 := m_p125 V w s (setN zz (g 3) r) (fun el7_125 eMA_125 => lp_X5_pack_57 km MI (nI (3 ^ g 3)) f (nI (dA g (Gd G (g 3) r))) (nI (r + 1)) eMA_125) (g 3) 1000 0 t (by omega) (by omega)
    rw [show nI 0 = (0 : Int32) from rfl] at h125
    rw [h125]
theorem pk_l (vx : VX BI BA g G) (vm : VM MI MA g G) (w : WF g G) (h3 : 0 < g 3) (kx : Int32 → Int32 → Int32 → (Nat → Nat → Int32) → Option (Int32 × (Nat → Nat → Int32))) (km : Int32 → Int32 → (Nat → Nat → Int32) → Option (Int32 × (Nat → Nat → Int32))) (s : Nat → Int32) : ∀ d fuel fuel' r b z t zz, r + d = 3 ^ g 3 → d < fuel → d < fuel' → b < 3 ^ g 3 → (∀ k, k < g 3 → t k = nI (dgt (g 3) b k)) → ∃ (b' : Nat) (z' t' zz' : Nat → Int32), b' < 3 ^ g 3 ∧ (∀ k, k < g 3 → t' k = nI (dgt (g 3) b' k)) ∧ (∀ q, setN z' (g 3) q = setN z (g 3) q) ∧ (∀ q, setN zz' (g 3) q = setN zz (g 3) q) ∧ lp_X4_cheapestCarrierRow_25 kx BI (nI (3 ^ g 3)) fuel (nI b) (nI (dA g (Gd G (g 3) b))) (nI r) (va_up BA 7 z) = kx (nI b') (nI (dA g (Gd G (g 3) b'))) (nI (3 ^ g 3)) (va_up BA 7 z') ∧ lp_X5_pack_57 km MI (nI (3 ^ g 3)) fuel' (nI (dA g (Gd G (g 3) b))) (nI r) (M3 MA s t zz) = km (nI (dA g (Gd G (g 3) b'))) (nI (3 ^ g 3)) (M3 MA s t' zz') := by
  have w3 := w.2.1
  have hp := p3_le w3
  intro d
  induction d with
  | zero =>
    intro fuel fuel' r b z t zz hr hf hf' hb ht
    obtain ⟨f, rfl⟩ : ∃ f, fuel = f + 1 := ⟨fuel - 1, by omega⟩
    obtain ⟨f', rfl⟩ : ∃ f, fuel' = f + 1 := ⟨fuel' - 1, by omega⟩
    refine ⟨b, z, t, zz, hb, ht, fun _ => rfl, fun _ => rfl, ?_, ?_⟩
    · unfold lp_X4_cheapestCarrierRow_25
      rw [show r = 3 ^ g 3 by omega, if_pos (by rw [s_le (by omega) (by omega)]; omega)]
    · unfold lp_X5_pack_57
      rw [show r = 3 ^ g 3 by omega, if_pos (by rw [s_le (by omega) (by omega)]; omega)]
  | succ d ih =>
    intro fuel fuel' r b z t zz hr hf hf' hb ht
    obtain ⟨f, rfl⟩ : ∃ f, fuel = f + 1 := ⟨fuel - 1, by omega⟩
    obtain ⟨f', rfl⟩ : ∃ f, fuel' = f + 1 := ⟨fuel' - 1, by omega⟩
    have dr := dA_le (WF_d w r)
    have db := dA_le (WF_d w b)
    obtain ⟨t1, ht1, e57⟩ := p57 vm w h3 km s t zz (r := r) (f := f') (by omega) (nI (dA g (Gd G (g 3) b)))
    rw [e57]
    unfold lp_X4_cheapestCarrierRow_25
    rw [if_neg (show ¬ nI (3 ^ g 3) ≤ nI r by rw [s_le (by omega) (by omega)]; omega), x_set vx w z (by omega) h3, ibn, x_da (VX_d vx z r) (WF_d w r), ibn, if_neg (nI_pos (show dA g (Gd G (g 3) b) < 2147483648 by omega)), nI_1]
    by_cases q : dA g (Gd G (g 3) b) ≤ dA g (Gd G (g 3) r)
    · have q' : nI (dA g (Gd G (g 3) b)) ≤ nI (dA g (Gd G (g 3) r)) := by rw [s_le (by omega) (by omega)]; exact q
      rw [if_pos q', if_pos q']
      obtain ⟨b', z', t', zz', y1, y2, y3, y4, y5, y6⟩ := ih f f' (r + 1) b (setN z (g 3) r) t (setN zz (g 3) r) (by omega) (by omega) (by omega) hb ht
      exact ⟨b', z', t', zz', y1, y2, fun q => (y3 q).trans (setN_set _ _ _ _), fun q => (y4 q).trans (setN_set _ _ _ _), y5, y6⟩
    · have q' : ¬ nI (dA g (Gd G (g 3) b)) ≤ nI (dA g (Gd G (g 3) r)) := by rw [s_le (by omega) (by omega)]; exact q
      rw [if_neg q', if_neg q']
      obtain ⟨b', z', t', zz', y1, y2, y3, y4, y5, y6⟩ := ih f f' (r + 1) r (setN z (g 3) r) t1 (setN zz (g 3) r) (by omega) (by omega) (by omega) (by omega) ht1
      exact ⟨b', z', t', zz', y1, y2, fun q => (y3 q).trans (setN_set _ _ _ _), fun q => (y4 q).trans (setN_set _ _ _ _), y5, y6⟩
theorem pk_0 (vx : VX BI BA g G) (vm : VM MI MA g G) (w : WF g G) (h3 : 0 < g 3) (kx : Int32 → Int32 → Int32 → (Nat → Nat → Int32) → Option (Int32 × (Nat → Nat → Int32))) (km : Int32 → Int32 → (Nat → Nat → Int32) → Option (Int32 × (Nat → Nat → Int32))) (s t z zz : Nat → Int32) (fu : Nat) (hfu : 100 < fu) : ∃ (b' : Nat) (z' t' zz' : Nat → Int32), b' < 3 ^ g 3 ∧ (∀ k, k < g 3 → t' k = nI (dgt (g 3) b' k)) ∧ (∀ q, setN z' (g 3) q = setN z (g 3) q) ∧ (∀ q, setN zz' (g 3) q = setN zz (g 3) q) ∧ lp_X4_cheapestCarrierRow_25 kx BI (nI (3 ^ g 3)) fu 0 2147483647 0 (va_up BA 7 z) = kx (nI b') (nI (dA g (Gd G (g 3) b'))) (nI (3 ^ g 3)) (va_up BA 7 z') ∧ lp_X5_pack_57 km MI (nI (3 ^ g 3)) fu (-9) 0 (M3 MA s t zz) = km (nI (dA g (Gd G (g 3) b'))) (nI (3 ^ g 3)) (M3 MA s t' zz') := by
  have w3 := w.2.1
  have hp := p3_le w3
  have hp0 : 0 < 3 ^ g 3 := Nat.pow_pos (by decide)
  obtain ⟨f, rfl⟩ : ∃ f, fu = f + 1 := ⟨fu - 1, by omega⟩
  obtain ⟨t1, ht1, e57⟩ := p57 vm w h3 km s t zz (r := 0) (f := f) hp0 (-9)
  have dr := dA_le (WF_d w 0)
  obtain ⟨b', z', t', zz', y1, y2, y3, y4, y5, y6⟩ := pk_l vx vm w h3 kx km s (3 ^ g 3 - 1) f f 1 0 (setN z (g 3) 0) t1 (setN zz (g 3) 0) (by omega) (by omega) (by omega) hp0 ht1
  refine ⟨b', z', t', zz', y1, y2, fun q => (y3 q).trans (setN_set _ _ _ _), fun q => (y4 q).trans (setN_set _ _ _ _), ?_, ?_⟩
  · unfold lp_X4_cheapestCarrierRow_25
    rw [show (0 : Int32) = nI 0 from rfl, if_neg (show ¬ nI (3 ^ g 3) ≤ nI 0 by rw [s_le (by omega) (by omega)]; omega), x_set vx w z (by omega) h3, ibn, x_da (VX_d vx z 0) (WF_d w 0), ibn, if_neg (show ¬ (2147483647 : Int32) ≤ nI (dA g (Gd G (g 3) 0)) by rw [show (2147483647 : Int32) = nI 2147483647 from rfl, s_le (by omega) (by omega)]; omega), nI_1, y5]
  · rw [show (0 : Int32) = nI 0 from rfl, e57, if_pos (by decide), y6]
theorem e_pack (h : RLw tr fa BI BA LN SZ CE MI MA) (a1 : Int32) : ∃ r MA', f_X4_pack BI BA a1 = some (r, BA) ∧ f_X5_pack MI MA a1 = some (r, MA') ∧ RLw tr fa BI BA LN SZ CE MI MA' := by
  have H := h
  obtain ⟨g, G, R, S, t, f⟩ := h
  obtain ⟨vx, vm, w, h1, h2, h9⟩ := id R
  have w3 := w.2.1
  have hp := p3_le w3
  unfold f_X4_pack f_X5_pack f_X4_cheapestCarrierRow
  rw [x_miss R]
  by_cases qm : (-1 : Int32) ≤ a1
  · rw [if_pos qm, if_pos qm]
    simp only [ibn, m_miss R]
    by_cases q : g 3 = 0
    · simp only [if_pos q, i10, ↓reduceIte]
      exact ⟨_, _, rfl, rfl, H⟩
    · simp only [if_neg q, ↓reduceIte]
      have h3 : 0 < g 3 := by omega
      have hd : ∀ k, k < g 3 → G 7 k ≤ 2 := fun k hk => (w.2.2.2.2.2.2.2.2.1 k hk).2.2.2
      have hcw := cw_lt (G 7) hd (g 3) (Nat.le_refl _)
      have hs7 : setN (BA 7) (g 3) (cw (G 7) (g 3)) = BA 7 := by
        funext k
        unfold setN
        by_cases hk : k < g 3
        · rw [if_pos hk, cw_dgt (G 7) hd hk, (vx.2.2.2.2.2.2.2.2.1 k hk).2.2.2]
        · rw [if_neg hk]
      rw [x_row vx w, x_rows vx w, vx.2.1]
      simp only [ibn]
      obtain ⟨b', z', t', zz', y1, y2, y3, y4, y5, y6⟩ := pk_0 vx vm w h3 (fun el2_25 el3_25 el5_25 eBA_25 => Option.bind (f_X0_setCarrierRow BI eBA_25 (nI (cw (G 7) (g 3)))) fun r73 => some (el2_25, r73)) (fun el3_57 el4_57 eMA_57 => lp_X5_pack_163 (fun el4_163 eMA_163 => if 0 ≤ a1 then (if (nI (g 3)) ≤ a1 then (some ((-9 : Int32), eMA_163)) else (if a1 < 0 ∨ 4 ≤ a1.toNatClampNeg then none else (some (eMA_163 25 a1.toNatClampNeg, eMA_163)))) else (some (el3_57, eMA_163))) MI 1000 (0 : Int32) eMA_57) (bz (MA 8) (MA 24) 0 (g 3)) (MA 25) (BA 7) (MA 8) 1000 (by decide)
      have hz8 : bz (bz (MA 8) (MA 24) 0 (g 3)) zz' 0 (g 3) = MA 8 := by
        funext k
        by_cases hk : k < g 3
        · rw [bz_i _ _ (by omega), bz_i _ _ (by omega)]
        · rw [bz_o _ _ (by omega)]
          have := congrFun (y4 0) k
          unfold setN at this
          rw [if_neg hk, if_neg hk] at this
          exact this
      have h163 := m_p163 (MA := MA) vm w (bz (MA 8) (MA 24) 0 (g 3)) t' (fun el4_163 eMA_163 => if 0 ≤ a1 then (if (nI (g 3)) ≤ a1 then (some ((-9 : Int32), eMA_163)) else (if a1 < 0 ∨ 4 ≤ a1.toNatClampNeg then none else (some (eMA_163 25 a1.toNatClampNeg, eMA_163)))) else (some (nI (dA g (Gd G (g 3) b')), eMA_163))) (g 3) 1000 0 zz' (by omega) (by omega)
      rw [show nI 0 = (0 : Int32) from rfl, hz8] at h163
      have h21 := m_p21 (MA := MA) vm w (MA 24) (MA 25) (MA 8) (fun el2_21 el3_21 eMA_21 => lp_X5_pack_57 (fun el3_57 el4_57 eMA_57 => lp_X5_pack_163 (fun el4_163 eMA_163 => if 0 ≤ a1 then (if (nI (g 3)) ≤ a1 then (some ((-9 : Int32), eMA_163)) else (if a1 < 0 ∨ 4 ≤ a1.toNatClampNeg then none else (some (eMA_163 25 a1.toNatClampNeg, eMA_163)))) else (some (el3_57, eMA_163))) MI 1000 (0 : Int32) eMA_57) MI el2_21 1000 (-9 : Int32) (0 : Int32) eMA_21) (g 3) 1000 0 (MA 24) (by omega) (by omega)
      rw [M3_self, Nat.pow_zero, show nI 1 = (1 : Int32) from rfl, show nI 0 = (0 : Int32) from rfl] at h21
      rw [vv_self] at y5
      rw [vm.2.1, h21, y6, h163, y5, x_set vx w z' (by omega) h3, y3, hs7, vv_self]
      simp only [ibn]
      have hset : f_X0_setCarrierRow BI BA (nI b') = some (va_up BA 7 (setN (BA 7) (g 3) b')) := by
        have := x_set vx w (BA 7) (v := b') (by omega) h3
        rw [vv_self] at this
        exact this
      rw [hset]
      simp only [ibn]
      rw [x_set vx w _ (v := cw (G 7) (g 3)) (by omega) h3, setN_set, hs7, vv_self, x_da (VX_d vx (BA 7) b') (WF_d w b')]
      simp only [ibn]
      have fin : RLw tr fa BI BA LN SZ CE MI (M3 MA (bz (MA 8) (MA 24) 0 (g 3)) t' (MA 8)) := by
        have e : M3 MA (bz (MA 8) (MA 24) 0 (g 3)) t' (MA 8) = va_up (va_up MA 24 (bz (MA 8) (MA 24) 0 (g 3))) 25 t' := vv_self (va_up (va_up MA 24 (bz (MA 8) (MA 24) 0 (g 3))) 25 t') 8
        rw [e]
        exact ⟨g, G, ⟨vx, VM_o (VM_o vm (Or.inr (Or.inr (Or.inr (Or.inr (Or.inr (Or.inl rfl)))))) _) (Or.inr (Or.inr (Or.inr (Or.inr (Or.inr (Or.inr rfl)))))) _, w, h1, h2, h9⟩, RS_o (RS_o S (by decide) (by decide) (by decide) _) (by decide) (by decide) (by decide) _, t, f⟩
      by_cases q0 : 0 ≤ a1
      · obtain ⟨j, hj, rfl⟩ := nI_of (x := a1) (fun h => nle h q0)
        simp only [if_pos q0]
        by_cases qj : j < g 3
        · rw [if_pos (show nI j < nI (g 3) by rw [s_lt (by omega) (by omega)]; exact qj), if_neg (show ¬ nI (g 3) ≤ nI j by rw [s_le (by omega) (by omega)]; omega), s_cl (show j < 2147483648 by omega), if_neg (gdc (show j < 4 by omega) (by decide)), if_neg (gdc (show j < 4 by omega) (by decide)), M3_25, vv_s, y2 j qj, setN_in _ _ qj]
          exact ⟨_, _, rfl, rfl, fin⟩
        · rw [if_neg (show ¬ nI j < nI (g 3) by rw [s_lt (by omega) (by omega)]; exact qj), if_pos (show nI (g 3) ≤ nI j by rw [s_le (by omega) (by omega)]; omega)]
          exact ⟨_, _, rfl, rfl, fin⟩
      · simp only [if_neg q0]
        rw [if_pos (show a1 < nI (g 3) by
          rw [Int32.le_iff_toInt_le, show (0 : Int32).toInt = 0 by decide] at q0
          rw [Int32.lt_iff_toInt_lt, nI_toInt (by omega)]
          omega)]
        exact ⟨_, _, rfl, rfl, fin⟩
  · rw [if_neg qm, if_neg qm]
    exact ⟨_, _, rfl, rfl, H⟩
end PK
