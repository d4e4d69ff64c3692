/-! readings, tell, hush, as -/
section MS
variable {BI : Nat → Int32} {BA : Nat → Nat → Int32} {MI : Nat → Int32} {MA : Nat → Nat → Int32} {g : Nat → Nat} {G : Nat → Nat → Nat} {LN SZ : Nat → Int32} {CE : Nat → Nat → Int32} {tr fa : Int32}
theorem VX_r (V : VX BI BA g G) (p v : Nat) : VX (upd BI 13 (nI (g 13 + 1))) (va_up (va_up BA 14 (upd (BA 14) (g 13) (nI p))) 15 (upd (BA 15) (g 13) (nI v))) (va_up g 13 (g 13 + 1)) (G_k (G_k G 14 (g 13) p) 15 (g 13) v) := by
  obtain ⟨h0, h3, h9, h10, h11, h12, h13, hp, hs, hc, hr⟩ := V
  refine ⟨h0, h3, h9, h10, h11, h12, ?_, fun p hp' => ?_, fun x hx => ?_, fun c hc' => ?_, fun x hx => ?_⟩
  · simp [upd, va_up]
  · simpa [va_up, G_k] using hp p hp'
  · simpa [va_up, G_k] using hs x hx
  · simpa [va_up, G_k] using hc c hc'
  · by_cases e : x = g 13
    · subst e; simp [va_up, G_k, upd]
    · have hx2 : x < g 13 := by
        simp [va_up] at hx
        omega
      simpa [va_up, G_k, upd, e] using hr x hx2
theorem VM_r (V : VM MI MA g G) (p v : Nat) : VM (upd MI 26 (nI (g 13 + 1))) (va_up (va_up MA 27 (upd (MA 27) (g 13) (nI p))) 28 (upd (MA 28) (g 13) (nI v))) (va_up g 13 (g 13 + 1)) (G_k (G_k G 14 (g 13) p) 15 (g 13) v) := by
  obtain ⟨h0, h3, h9, h10, h11, h12, h13, hp, hs, hc, hr⟩ := V
  refine ⟨h0, h3, h9, h10, h11, h12, ?_, fun p hp' => ?_, fun x hx => ?_, fun c hc' => ?_, fun x hx => ?_⟩
  · simp [upd, va_up]
  · simpa [va_up, G_k] using hp p hp'
  · simpa [va_up, G_k] using hs x hx
  · simpa [va_up, G_k] using hc c hc'
  · by_cases e : x = g 13
    · subst e; simp [va_up, G_k, upd]
    · have hx2 : x < g 13 := by
        simp [va_up] at hx
        omega
      simpa [va_up, G_k, upd, e] using hr x hx2
theorem WF_r (w : WF g G) {p v : Nat} (h : g 13 < 8) (hp : p < g 0) (hv : v ≤ 99999) : WF (va_up g 13 (g 13 + 1)) (G_k (G_k G 14 (g 13) p) 15 (g 13) v) := by
  obtain ⟨w0, w3, w9, w10, w11, w12, w13, wp, ws, wc, wr⟩ := w
  refine ⟨w0, w3, w9, w10, w11, w12, ?_, fun p hp' => ?_, fun x hx => ?_, fun c hc' => ?_, fun x hx => ?_⟩
  · simp [va_up]; omega
  · simpa [va_up, G_k] using wp p hp'
  · simpa [va_up, G_k] using ws x hx
  · simpa [va_up, G_k] using wc c hc'
  · by_cases e : x = g 13
    · subst e; simp [va_up, G_k]; exact ⟨hp, hv⟩
    · have hx2 : x < g 13 := by
        simp [va_up] at hx
        omega
      simpa [va_up, G_k, e] using wr x hx2
theorem VX_b (V : VX BI BA g G) {v : Nat} (h : v ≤ g 13) : VX (upd BI 13 (nI v)) BA (va_up g 13 v) G := by
  obtain ⟨h0, h3, h9, h10, h11, h12, h13, hp, hs, hc, hr⟩ := V
  refine ⟨h0, h3, h9, h10, h11, h12, ?_, hp, hs, hc, fun x hx => ?_⟩
  · simp [upd, va_up]
  · simp [va_up] at hx
    exact hr x (by omega)
theorem VM_b (V : VM MI MA g G) {v : Nat} (h : v ≤ g 13) : VM (upd MI 26 (nI v)) MA (va_up g 13 v) G := by
  obtain ⟨h0, h3, h9, h10, h11, h12, h13, hp, hs, hc, hr⟩ := V
  refine ⟨h0, h3, h9, h10, h11, h12, ?_, hp, hs, hc, fun x hx => ?_⟩
  · simp [upd, va_up]
  · simp [va_up] at hx
    exact hr x (by omega)
theorem WF_b (w : WF g G) {v : Nat} (h : v ≤ g 13) : WF (va_up g 13 v) G := by
  obtain ⟨w0, w3, w9, w10, w11, w12, w13, wp, ws, wc, wr⟩ := w
  refine ⟨w0, w3, w9, w10, w11, w12, ?_, wp, ws, wc, fun x hx => ?_⟩
  · simp [va_up]; omega
  · simp [va_up] at hx
    exact wr x (by omega)
theorem e_reading (h : RLw tr fa BI BA LN SZ CE MI MA) (a1 a2 : Int32) : ∃ r BI' BA' MI' MA', f_X4_reading BI BA a1 a2 = some (r, BI', BA') ∧ f_X5_reading MI MA a1 a2 = some (r, MI', MA') ∧ RLw tr fa BI' BA' LN SZ CE MI' MA' := by
  have H := h
  obtain ⟨g, G, R, S, t, f⟩ := h
  obtain ⟨vx, vm, w, h1, h2, h3⟩ := id R
  have w13 := w.2.2.2.2.2.2.1
  unfold f_X4_reading f_X5_reading
  rcases px vx vm w a1 with ⟨p, hp, rfl, e1, e2⟩ | ⟨e1, e2⟩
  · rw [e1, e2, show (99999 : Int32) = nI 99999 from rfl, show (99999 : Int64) = lN 99999 from rfl]
    rcases wi a2 (N := 99999) (by decide) with ⟨v, hv, rfl, e3, e4⟩ | ⟨e3, e4⟩
    · rw [e3, e4, vx.2.2.2.2.2.2.1, vm.2.2.2.2.2.2.1, s_cl (show g 13 < 2147483648 by omega), li8]
      simp only [ibn, ↓reduceIte, i10]
      by_cases q : g 13 = 8
      · rw [if_neg (by rw [s_lt (by omega) (by omega)]; omega), if_pos (by rw [q])]
        exact ⟨_, _, _, _, _, rfl, rfl, H⟩
      · rw [if_pos (by rw [s_lt (by omega) (by omega)]; omega), if_neg (show ¬ nI (g 13) = nI 8 by rw [s_eq (by omega) (by omega)]; exact q)]
        simp only [if_neg (gdc (show g 13 < 8 by omega) (by decide))]
        rw [nI_1, uu_s, vv_n _ _ (show (15 : Nat) ≠ 14 by decide), vv_n _ _ (show (28 : Nat) ≠ 27 by decide), li1, pk_sub (by omega), Nat.add_sub_cancel]
        refine ⟨_, _, _, _, _, rfl, rfl, ⟨_, _, ⟨VX_r vx p v, VM_r vm p v, WF_r w (by omega) hp hv, h1, h2, h3⟩, RS_o (RS_o S (by decide) (by decide) (by decide) _) (by decide) (by decide) (by decide) _, ?_, ?_⟩⟩
        · rw [uu_n _ _ (by decide), t]
        · rw [uu_n _ _ (by decide), f]
    · rw [e3, e4]
      exact ⟨_, _, _, _, _, rfl, rfl, H⟩
  · rw [e1, e2]
    exact ⟨_, _, _, _, _, rfl, rfl, H⟩
theorem e_back (h : RLw tr fa BI BA LN SZ CE MI MA) (a1 : Int32) : ∃ r BI' MI', f_X4_back BI a1 = some (r, BI') ∧ f_X5_back MI a1 = some (r, MI') ∧ RLw tr fa BI' BA LN SZ CE MI' MA := by
  have H := h
  obtain ⟨g, G, R, S, t, f⟩ := h
  obtain ⟨vx, vm, w, h1, h2, h3⟩ := id R
  have w13 := w.2.2.2.2.2.2.1
  unfold f_X4_back f_X5_back
  rw [vx.2.2.2.2.2.2.1, vm.2.2.2.2.2.2.1, nI_l (by omega)]
  rcases wi a1 (N := g 13) (by omega) with ⟨v, hv, rfl, e1, e2⟩ | ⟨e1, e2⟩
  · rw [e1, e2, pk_sub hv, uu_s, uu_s]
    refine ⟨_, _, _, rfl, rfl, ⟨_, _, ⟨VX_b vx (Nat.sub_le _ _), VM_b vm (Nat.sub_le _ _), WF_b w (Nat.sub_le _ _), h1, h2, h3⟩, S, ?_, ?_⟩⟩
    · rw [uu_n _ _ (by decide), t]
    · rw [uu_n _ _ (by decide), f]
  · rw [e1, e2]
    exact ⟨_, _, _, rfl, rfl, H⟩
theorem RL_t (R : RBx BI BA MI MA g G) (S : RS LN SZ CE MA) (f : MI 0 = fa) (v : Int32) : RLw v fa BI BA LN SZ CE (upd MI 33 v) MA :=
  ⟨g, G, ⟨R.1, VM_33 R.2.1 v, R.2.2⟩, S, uu_s _ _ _, by rw [uu_n _ _ (by decide), f]⟩
theorem e_tell (h : RLw tr fa BI BA LN SZ CE MI MA) (a1 : Int32) : ∃ r tr' MI', f_X4_tell tr BI BA a1 = some (r, tr') ∧ f_X5_tell MI MA a1 = some (r, MI') ∧ RLw tr' fa BI BA LN SZ CE MI' MA := by
  have H := h
  obtain ⟨g, G, R, S, t, f⟩ := h
  obtain ⟨vx, vm, w, h1, h2, h3⟩ := id R
  have w3 := w.2.1
  unfold f_X4_tell f_X5_tell jb_X5_tell_27 jb_X5_tell_36 jb_X5_tell_51 f_X5_traced
  unfold f_X4_keptTells f_X4_heldTells f_X4_silenceTells f_X4_keptTells f_X4_silenceTells f_X4_leave
  rcases sx vx vm w a1 with ⟨j, hj, rfl, e1, e2⟩ | ⟨e1, e2⟩
  · have hs := vx.2.2.2.2.2.2.2.2.1 j hj
    have hm := vm.2.2.2.2.2.2.2.2.1 j hj
    have hk := (w.2.2.2.2.2.2.2.2.1 j hj).1
    rw [e1, e2, s_cl (show j < 2147483648 by omega), hs.1, hs.2.1, hm.1, hm.2.1]
    simp only [ibn, ↓reduceIte, i10, if_neg (gdc (show j < 4 by omega) (by decide)), uu_s, uu_u]
    rcases (show G 4 j = 0 ∨ G 4 j = 1 ∨ G 4 j = 2 by omega) with q | q | q
    · rw [q, show nI 0 = (0 : Int32) from rfl, if_neg (by decide), if_neg (by decide), if_neg (by decide), if_pos (by decide), if_neg (by decide), if_pos rfl, t]
      exact ⟨_, _, _, rfl, rfl, RL_t R S f _⟩
    · rw [q, show nI 1 = (1 : Int32) from rfl, if_pos rfl, if_neg (by decide), if_neg (by decide), if_neg (by decide), if_neg (by decide), if_pos rfl, t]
      exact ⟨_, _, _, rfl, rfl, RL_t R S f _⟩
    · rw [q, show nI 2 = (2 : Int32) from rfl, if_neg (by decide), if_pos rfl, if_pos rfl, if_neg (by decide), if_pos rfl, if_neg (by decide), if_neg (by decide), t]
      refine ⟨_, _, _, rfl, ?_, RL_t R S f _⟩
      congr 2
      rw [show (2 : Int32) = nI 2 from rfl, show (100 : Int32) = nI 100 from rfl, s_mul, s_add, s_add, s_add]
      congr 1
      omega
  · rw [e1, e2]
    exact ⟨_, _, _, rfl, rfl, H⟩
theorem e_hush (h : RLw tr fa BI BA LN SZ CE MI MA) (a1 : Int32) : ∃ r tr' MI', f_X4_hush tr BI BA a1 = some (r, tr') ∧ f_X5_hush MI MA a1 = some (r, MI') ∧ RLw tr' fa BI BA LN SZ CE MI' MA := by
  have H := h
  obtain ⟨g, G, R, S, t, f⟩ := h
  obtain ⟨vx, vm, w, h1, h2, h3⟩ := id R
  have w3 := w.2.1
  unfold f_X4_hush f_X5_hush jb_X5_hush_26 f_X5_traced f_X4_leave
  rcases sx vx vm w a1 with ⟨j, hj, rfl, e1, e2⟩ | ⟨e1, e2⟩
  · have hs := vx.2.2.2.2.2.2.2.2.1 j hj
    have hm := vm.2.2.2.2.2.2.2.2.1 j hj
    rw [e1, e2, s_cl (show j < 2147483648 by omega), hs.1, hm.1]
    simp only [ibn, ↓reduceIte, i10, if_neg (gdc (show j < 4 by omega) (by decide)), t]
    by_cases q : nI (G 4 j) = 2
    · simp only [if_pos q]
      exact ⟨_, _, _, rfl, rfl, RL_t R S f _⟩
    · simp only [if_neg q]
      exact ⟨_, _, _, rfl, rfl, RL_t R S f _⟩
  · rw [e1, e2]
    exact ⟨_, _, _, rfl, rfl, H⟩
theorem e_as (h : RLw tr fa BI BA LN SZ CE MI MA) (a1 a2 : Int32) : ∃ r fa' MI', f_X4_as BI BA a1 a2 = some (r, fa') ∧ f_X5_as MI MA a1 a2 = some (r, MI') ∧ RLw tr fa' BI BA LN SZ CE MI' MA := by
  obtain ⟨g, G, R, S, t, f⟩ := h
  obtain ⟨vx, vm, w, h1, h2, h3⟩ := id R
  have w3 := w.2.1
  unfold f_X4_as f_X5_as
  rcases sx vx vm w a1 with ⟨j, hj, rfl, e1, e2⟩ | ⟨e1, e2⟩
  · have hs := vx.2.2.2.2.2.2.2.2.1 j hj
    have hm := vm.2.2.2.2.2.2.2.2.1 j hj
    have hk := (w.2.2.2.2.2.2.2.2.1 j hj).1
    rw [e1, e2, s_cl (show j < 2147483648 by omega), hs.1, hm.1, show (2 : Int64) = lN 2 from rfl]
    rcases wi a2 (N := 2) (by decide) with ⟨v, hv, rfl, e3, e4⟩ | ⟨e3, e4⟩
    · rw [show f_X4_isWithin (nI v) 0 2 = _ from e3, e4]
      simp only [ibn, ↓reduceIte, i10, if_neg (gdc (show j < 4 by omega) (by decide))]
      by_cases q : v ≤ G 4 j
      · rw [if_pos (by rw [s_le (by omega) (by omega)]; exact q), if_neg (by rw [s_lt (by omega) (by omega)]; omega)]
        exact ⟨_, _, _, rfl, rfl, RL_f R S t 0⟩
      · rw [if_neg (by rw [s_le (by omega) (by omega)]; exact q), if_pos (by rw [s_lt (by omega) (by omega)]; omega)]
        exact ⟨_, _, _, rfl, rfl, RL_f R S t 2⟩
    · rw [show f_X4_isWithin a2 0 2 = _ from e3, e4]
      exact ⟨_, _, _, rfl, rfl, RL_f R S t 0⟩
  · rw [e1, e2]
    exact ⟨_, _, _, rfl, rfl, RL_f R S t 0⟩
end MS
