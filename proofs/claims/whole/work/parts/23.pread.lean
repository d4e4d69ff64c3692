/-! READINGS, and states with one thing otherwise -/
def soF (g : Nat → Nat) (G : Nat → Nat → Nat) : Nat → Nat → Nat
  | 0, _ => 1
  | d + 1, k => if dty g G (G 14 k) = G 15 k then soF g G d (k + 1) else 0
theorem soF_lt (g : Nat → Nat) (G : Nat → Nat → Nat) : ∀ d k, soF g G d k < 2 := by
  intro d
  induction d with
  | zero => intro k; exact (by decide : 1 < 2)
  | succ d ih =>
    intro k
    unfold soF
    split
    · exact ih _
    · decide
def so (g : Nat → Nat) (G : Nat → Nat → Nat) : Nat := soF g G (g 13) 0
theorem so_lt (g : Nat → Nat) (G : Nat → Nat → Nat) : so g G < 2 := soF_lt g G _ _
section XR
variable {BI : Nat → Int32} {BA : Nat → Nat → Int32} {g : Nat → Nat} {G : Nat → Nat → Nat}
theorem x_so (V : VX BI BA g G) (w : WF g G) (kk : Int32 → Option Int32) : ∀ d fuel k, k + d = g 13 → d < fuel → lp_X0_readingsAreSo_2 kk BI BA fuel (nI k) = if soF g G d k = 1 then kk (nI (g 13)) else some 0 := by
  have V0 := V
  have w0' := w
  obtain ⟨h0, h3, h9, h10, h11, h12, h13, hp, hs, hc, hr⟩ := V
  obtain ⟨w0, w3, w9, w10, w11, w12, w13, wp, ws, wc, wr⟩ := w
  intro d
  induction d with
  | zero =>
    intro fuel k hk hf
    obtain ⟨f, rfl⟩ : ∃ f, fuel = f + 1 := ⟨fuel - 1, by omega⟩
    unfold lp_X0_readingsAreSo_2
    rw [h13, show k = g 13 by omega]
    simp [soF, s_le (show g 13 < 2147483648 by omega) (show g 13 < 2147483648 by omega)]
  | succ d ih =>
    intro fuel k hk hf
    obtain ⟨f, rfl⟩ : ∃ f, fuel = f + 1 := ⟨fuel - 1, by omega⟩
    have hk1 : ¬ g 13 ≤ k := by omega
    have hk8 : ¬ 8 ≤ k := by omega
    have hr := hr k (by omega)
    have wr := wr k (by omega)
    have hd := dty_le w0' wr.1
    unfold lp_X0_readingsAreSo_2 soF
    rw [h13]
    simp (discharger := omega) only [li0, li1, li2, li3, li4, li7, li8, li9, li60, s_cl, s_le, s_lt, s_eq, s_add, s_mul, Nat.not_lt_zero, false_or, or_false, ↓reduceIte, ibind, hk1, hk8, hr.1, hr.2, x_dutyAt V0 w0' wr.1]
    by_cases c : dty g G (G 14 k) = G 15 k
    · rw [if_pos c, if_pos c]
      exact ih f (k + 1) (by omega) (by omega)
    · rw [if_neg c, if_neg c]
      rfl
theorem x_readingsAreSo (V : VX BI BA g G) (w : WF g G) : f_X0_readingsAreSo BI BA = some (nI (so g G)) := by
  unfold f_X0_readingsAreSo
  refine (x_so V w (fun _ => some (1 : Int32)) (g 13) 1000 0 (by omega) (by have := w.2.2.2.2.2.2.1; omega)).trans ?_
  have := so_lt g G
  by_cases c : soF g G (g 13) 0 = 1
  · rw [if_pos c]; unfold so; rw [c]; rfl
  · rw [if_neg c, show so g G = 0 by unfold so at *; omega]; rfl
end XR
section MR
variable {MI : Nat → Int32} {MA : Nat → Nat → Int32} {g : Nat → Nat} {G : Nat → Nat → Nat}
theorem m_so (V : VM MI MA g G) (w : WF g G) (kk : Int32 → Int32 → Option Int32) : ∀ d fuel k a, a < 2 → k + d = g 13 → d < fuel → lp_X5_areSo_4 kk MI MA fuel (nI a) (nI k) = kk (nI (if a = 0 then 0 else soF g G d k)) (nI (g 13)) := by
  have V0 := V
  have w0' := w
  obtain ⟨h0, h3, h9, h10, h11, h12, h13, hp, hs, hc, hr⟩ := V
  obtain ⟨w0, w3, w9, w10, w11, w12, w13, wp, ws, wc, wr⟩ := w
  intro d
  induction d with
  | zero =>
    intro fuel k a ha hk hf
    obtain ⟨f, rfl⟩ : ∃ f, fuel = f + 1 := ⟨fuel - 1, by omega⟩
    unfold lp_X5_areSo_4
    rw [h13, show k = g 13 by omega]
    have : (if a = 0 then 0 else soF g G 0 (g 13)) = a := by
      show (if a = 0 then 0 else 1) = a
      split <;> omega
    rw [this]
    simp [s_le (show g 13 < 2147483648 by omega) (show g 13 < 2147483648 by omega)]
  | succ d ih =>
    intro fuel k a ha hk hf
    obtain ⟨f, rfl⟩ : ∃ f, fuel = f + 1 := ⟨fuel - 1, by omega⟩
    have hk1 : ¬ g 13 ≤ k := by omega
    have hk8 : ¬ 8 ≤ k := by omega
    have hr := hr k (by omega)
    have wr := wr k (by omega)
    have hd := dty_le w0' wr.1
    unfold lp_X5_areSo_4 soF
    rw [h13]
    simp (discharger := omega) only [li0, li1, li2, li3, li4, li7, li8, li9, li60, s_cl, s_le, s_lt, s_eq, s_add, s_mul, Nat.not_lt_zero, false_or, or_false, ↓reduceIte, ibind, hk1, hk8, hr.1, hr.2, m_dutyAt V0 w0' wr.1]
    by_cases c0 : a = 0
    · rw [if_pos c0, if_pos c0, ih f (k + 1) 0 (by omega) (by omega) (by omega), if_pos rfl]
    · rw [if_neg c0, if_neg c0]
      by_cases c : dty g G (G 14 k) = G 15 k
      · rw [if_pos c, if_pos c, ih f (k + 1) 1 (by omega) (by omega) (by omega), if_neg (by omega)]
      · rw [if_neg c, if_neg c, ih f (k + 1) 0 (by omega) (by omega) (by omega), if_pos rfl]
theorem m_areSo (V : VM MI MA g G) (w : WF g G) : f_X5_areSo MI MA = some (nI (so g G)) := by
  unfold f_X5_areSo
  refine (m_so V w (fun el1_4 el2_4 => if el1_4 = 0 ∨ el1_4 = 1 then some el1_4 else none) (g 13) 1000 0 1 (by omega) (by omega) (by have := w.2.2.2.2.2.2.1; omega)).trans ?_
  have := so_lt g G
  show (if nI (so g G) = 0 ∨ nI (so g G) = 1 then some (nI (so g G)) else none) = _
  rcases (show so g G = 0 ∨ so g G = 1 by omega) with h | h <;> rw [h] <;> rfl
end MR
/-! one thing otherwise -/
section UP
variable {BI : Nat → Int32} {BA : Nat → Nat → Int32} {MI : Nat → Int32} {MA : Nat → Nat → Int32} {g : Nat → Nat} {G : Nat → Nat → Nat}
theorem uu_self (f : Nat → Int32) (k : Nat) : upd f k (f k) = f := by
  funext j
  by_cases h : j = k
  · subst h; rw [uu_s]
  · rw [uu_n _ _ h]
theorem vv_self {α : Type} (f : Nat → α) (k : Nat) : va_up f k (f k) = f := by
  funext j
  by_cases h : j = k
  · subst h; rw [vv_s]
  · rw [vv_n _ _ h]
theorem VX_9 (V : VX BI BA g G) (v : Nat) : VX (upd BI 9 (nI v)) BA (va_up g 9 v) G := by
  simpa [VX, upd, va_up] using (show _ ∧ _ from ⟨V.1, V.2.1, V.2.2.2⟩)
theorem VX_10 (V : VX BI BA g G) (v : Nat) : VX (upd BI 10 (nI v)) BA (va_up g 10 v) G := by
  simpa [VX, upd, va_up] using (show _ ∧ _ from ⟨V.1, V.2.1, V.2.2.1, V.2.2.2.2⟩)
theorem VX_11 (V : VX BI BA g G) (v : Nat) : VX (upd BI 11 (nI v)) BA (va_up g 11 v) G := by
  simpa [VX, upd, va_up] using (show _ ∧ _ from ⟨V.1, V.2.1, V.2.2.1, V.2.2.2.1, V.2.2.2.2.2⟩)
theorem VX_12 (V : VX BI BA g G) (v : Nat) : VX (upd BI 12 (lowI v)) BA (va_up g 12 v) G := by
  simpa [VX, upd, va_up] using (show _ ∧ _ from ⟨V.1, V.2.1, V.2.2.1, V.2.2.2.1, V.2.2.2.2.1, V.2.2.2.2.2.2⟩)
theorem VM_9 (V : VM MI MA g G) (v : Nat) : VM (upd MI 10 (nI v)) MA (va_up g 9 v) G := by
  simpa [VM, upd, va_up] using (show _ ∧ _ from ⟨V.1, V.2.1, V.2.2.2⟩)
theorem VM_10 (V : VM MI MA g G) (v : Nat) : VM (upd MI 12 (nI v)) MA (va_up g 10 v) G := by
  simpa [VM, upd, va_up] using (show _ ∧ _ from ⟨V.1, V.2.1, V.2.2.1, V.2.2.2.2⟩)
theorem VM_11 (V : VM MI MA g G) (v : Nat) : VM (upd MI 11 (nI v)) MA (va_up g 11 v) G := by
  simpa [VM, upd, va_up] using (show _ ∧ _ from ⟨V.1, V.2.1, V.2.2.1, V.2.2.2.1, V.2.2.2.2.2⟩)
theorem VM_12 (V : VM MI MA g G) (v : Nat) : VM (upd MI 13 (lowI v)) MA (va_up g 12 v) G := by
  simpa [VM, upd, va_up] using (show _ ∧ _ from ⟨V.1, V.2.1, V.2.2.1, V.2.2.2.1, V.2.2.2.2.1, V.2.2.2.2.2.2⟩)
theorem WF_9 (w : WF g G) {v : Nat} (h : v < 16) : WF (va_up g 9 v) G := by
  simpa [WF, va_up] using (show _ ∧ _ from ⟨w.1, w.2.1, h, w.2.2.2⟩)
theorem WF_10 (w : WF g G) {v : Nat} (h : v ≤ 7) : WF (va_up g 10 v) G := by
  simpa [WF, va_up] using (show _ ∧ _ from ⟨w.1, w.2.1, w.2.2.1, h, w.2.2.2.2⟩)
theorem WF_11 (w : WF g G) {v : Nat} (h : v ≤ 9) : WF (va_up g 11 v) G := by
  simpa [WF, va_up] using (show _ ∧ _ from ⟨w.1, w.2.1, w.2.2.1, w.2.2.2.1, h, w.2.2.2.2.2⟩)
theorem WF_12 (w : WF g G) {v : Nat} (h : v < 4 ∨ v = 99) : WF (va_up g 12 v) G := by
  simpa [WF, va_up] using (show _ ∧ _ from ⟨w.1, w.2.1, w.2.2.1, w.2.2.2.1, w.2.2.2.2.1, h, w.2.2.2.2.2.2⟩)
/-- a row of silences with one place otherwise -/
def G_k (G : Nat → Nat → Nat) (j k v : Nat) : Nat → Nat → Nat := va_up G j (va_up (G j) k v)
theorem VX_4 (V : VX BI BA g G) (k v : Nat) : VX BI (va_up BA 4 (upd (BA 4) k (nI v))) g (G_k G 4 k v) := by
  obtain ⟨h0, h3, h9, h10, h11, h12, h13, hp, hs, hc, hr⟩ := V
  refine ⟨h0, h3, h9, h10, h11, h12, h13, fun p hp' => ?_, fun x hx => ?_, fun c hc' => ?_, fun x hx => ?_⟩
  · simpa [va_up, G_k] using hp p hp'
  · have h := hs x hx
    by_cases e : x = k
    · subst e; simpa [va_up, G_k, upd] using h.2
    · simpa [va_up, G_k, upd, e] using h
  · simpa [va_up, G_k] using hc c hc'
  · simpa [va_up, G_k] using hr x hx
theorem VX_7 (V : VX BI BA g G) (k v : Nat) : VX BI (va_up BA 7 (upd (BA 7) k (nI v))) g (G_k G 7 k v) := by
  obtain ⟨h0, h3, h9, h10, h11, h12, h13, hp, hs, hc, hr⟩ := V
  refine ⟨h0, h3, h9, h10, h11, h12, h13, fun p hp' => ?_, fun x hx => ?_, fun c hc' => ?_, fun x hx => ?_⟩
  · simpa [va_up, G_k] using hp p hp'
  · have h := hs x hx
    by_cases e : x = k
    · subst e; simpa [va_up, G_k, upd] using ⟨h.1, h.2.1, h.2.2.1⟩
    · simpa [va_up, G_k, upd, e] using h
  · simpa [va_up, G_k] using hc c hc'
  · simpa [va_up, G_k] using hr x hx
theorem VX_8 (V : VX BI BA g G) (k v : Nat) : VX BI (va_up BA 8 (upd (BA 8) k (nI v))) g (G_k G 8 k v) := by
  obtain ⟨h0, h3, h9, h10, h11, h12, h13, hp, hs, hc, hr⟩ := V
  refine ⟨h0, h3, h9, h10, h11, h12, h13, fun p hp' => ?_, fun x hx => ?_, fun c hc' => ?_, fun x hx => ?_⟩
  · simpa [va_up, G_k] using hp p hp'
  · simpa [va_up, G_k] using hs x hx
  · have h := hc c hc'
    by_cases e : c = k
    · subst e; simp [va_up, G_k, upd]
    · simpa [va_up, G_k, upd, e] using h
  · simpa [va_up, G_k] using hr x hx
theorem VM_4 (V : VM MI MA g G) (k v : Nat) : VM MI (va_up MA 5 (upd (MA 5) k (nI v))) g (G_k G 4 k v) := by
  obtain ⟨h0, h3, h9, h10, h11, h12, h13, hp, hs, hc, hr⟩ := V
  refine ⟨h0, h3, h9, h10, h11, h12, h13, fun p hp' => ?_, fun x hx => ?_, fun c hc' => ?_, fun x hx => ?_⟩
  · simpa [va_up, G_k] using hp p hp'
  · have h := hs x hx
    by_cases e : x = k
    · subst e; simpa [va_up, G_k, upd] using h.2
    · simpa [va_up, G_k, upd, e] using h
  · simpa [va_up, G_k] using hc c hc'
  · simpa [va_up, G_k] using hr x hx
theorem VM_7 (V : VM MI MA g G) (k v : Nat) : VM MI (va_up MA 8 (upd (MA 8) k (nI v))) g (G_k G 7 k v) := by
  obtain ⟨h0, h3, h9, h10, h11, h12, h13, hp, hs, hc, hr⟩ := V
  refine ⟨h0, h3, h9, h10, h11, h12, h13, fun p hp' => ?_, fun x hx => ?_, fun c hc' => ?_, fun x hx => ?_⟩
  · simpa [va_up, G_k] using hp p hp'
  · have h := hs x hx
    by_cases e : x = k
    · subst e; simpa [va_up, G_k, upd] using ⟨h.1, h.2.1, h.2.2.1⟩
    · simpa [va_up, G_k, upd, e] using h
  · simpa [va_up, G_k] using hc c hc'
  · simpa [va_up, G_k] using hr x hx
theorem VM_8 (V : VM MI MA g G) (k v : Nat) : VM MI (va_up MA 9 (upd (MA 9) k (nI v))) g (G_k G 8 k v) := by
  obtain ⟨h0, h3, h9, h10, h11, h12, h13, hp, hs, hc, hr⟩ := V
  refine ⟨h0, h3, h9, h10, h11, h12, h13, fun p hp' => ?_, fun x hx => ?_, fun c hc' => ?_, fun x hx => ?_⟩
  · simpa [va_up, G_k] using hp p hp'
  · simpa [va_up, G_k] using hs x hx
  · have h := hc c hc'
    by_cases e : c = k
    · subst e; simp [va_up, G_k, upd]
    · simpa [va_up, G_k, upd, e] using h
  · simpa [va_up, G_k] using hr x hx
theorem WF_4 (w : WF g G) (k : Nat) {v : Nat} (h : v ≤ 2) : WF g (G_k G 4 k v) := by
  obtain ⟨w0, w3, w9, w10, w11, w12, w13, wp, ws, wc, wr⟩ := w
  refine ⟨w0, w3, w9, w10, w11, w12, w13, fun p hp' => ?_, fun x hx => ?_, fun c hc' => ?_, fun x hx => ?_⟩
  · simpa [va_up, G_k] using wp p hp'
  · have h2 := ws x hx
    by_cases e : x = k
    · subst e; simpa [va_up, G_k, h] using h2.2
    · simpa [va_up, G_k, e] using h2
  · simpa [va_up, G_k] using wc c hc'
  · simpa [va_up, G_k] using wr x hx
theorem WF_7 (w : WF g G) (k : Nat) {v : Nat} (h : v ≤ 2) : WF g (G_k G 7 k v) := by
  obtain ⟨w0, w3, w9, w10, w11, w12, w13, wp, ws, wc, wr⟩ := w
  refine ⟨w0, w3, w9, w10, w11, w12, w13, fun p hp' => ?_, fun x hx => ?_, fun c hc' => ?_, fun x hx => ?_⟩
  · simpa [va_up, G_k] using wp p hp'
  · have h2 := ws x hx
    by_cases e : x = k
    · subst e; simpa [va_up, G_k, h] using ⟨h2.1, h2.2.1, h2.2.2.1⟩
    · simpa [va_up, G_k, e] using h2
  · simpa [va_up, G_k] using wc c hc'
  · simpa [va_up, G_k] using wr x hx
theorem WF_8 (w : WF g G) (k : Nat) {v : Nat} (h : v ≤ 9) : WF g (G_k G 8 k v) := by
  obtain ⟨w0, w3, w9, w10, w11, w12, w13, wp, ws, wc, wr⟩ := w
  refine ⟨w0, w3, w9, w10, w11, w12, w13, fun p hp' => ?_, fun x hx => ?_, fun c hc' => ?_, fun x hx => ?_⟩
  · simpa [va_up, G_k] using wp p hp'
  · simpa [va_up, G_k] using ws x hx
  · have h2 := wc c hc'
    by_cases e : c = k
    · subst e; simpa [va_up, G_k] using h
    · simpa [va_up, G_k, e] using h2
  · simpa [va_up, G_k] using wr x hx
end UP
