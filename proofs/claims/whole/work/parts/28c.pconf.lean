/-! the methods over the configuration -/
theorem ex_ite {α : Type} {c : Prop} [Decidable c] {a b a' b' : Option α} (h1 : ∃ r, a = some r ∧ a' = some r) (h2 : ∃ r, b = some r ∧ b' = some r) : ∃ r, (if c then a else b) = some r ∧ (if c then a' else b') = some r := by
  by_cases q : c
  · rw [if_pos q, if_pos q]; exact h1
  · rw [if_neg q, if_neg q]; exact h2
theorem dcl_1 : ∀ d, d < 16 → ∀ k, k < 4 → (nI d ^^^ ((1 : Int32) <<< (nI k &&& 31))) = nI (d ^^^ 2 ^ k) := by decide +kernel
theorem dcl_2 : ∀ n, n < 5 → ∀ k, k < n → ∀ d, d < 2 ^ n → (d ^^^ 2 ^ k) < 2 ^ n := by decide +kernel
theorem dcl_3 : ∀ d, d < 16 → ∀ k, k < 4 → (bitN d k = 1 → (nI d &&& (((1 : Int32) <<< (nI k &&& 31)) ^^^ (-1 : Int32))) = nI (d ^^^ 2 ^ k) ∧ (nI d ||| ((1 : Int32) <<< (nI k &&& 31))) = nI d) := by decide +kernel
theorem dcl_4 : ∀ d, d < 16 → ∀ k, k < 4 → (bitN d k = 0 → (nI d &&& (((1 : Int32) <<< (nI k &&& 31)) ^^^ (-1 : Int32))) = nI d ∧ (nI d ||| ((1 : Int32) <<< (nI k &&& 31))) = nI (d ^^^ 2 ^ k)) := by decide +kernel
section CF
variable {BI : Nat → Int32} {BA : Nat → Nat → Int32} {MI : Nat → Int32} {MA : Nat → Nat → Int32} {g : Nat → Nat} {G : Nat → Nat → Nat} {LN SZ : Nat → Int32} {CE : Nat → Nat → Int32} {tr fa : Int32}
theorem RB_9 (R : RBx BI BA MI MA g G) {v : Nat} (h : v < 2 ^ g 3) : RBx (upd BI 9 (nI v)) BA (upd MI 10 (nI v)) MA (va_up g 9 v) G := by
  obtain ⟨vx, vm, w, h1, h2, h3⟩ := R
  have := pw_le w.2.1
  exact ⟨VX_9 vx v, VM_9 vm v, WF_9 w (by omega), h1, h2, by simpa [va_up] using h⟩
theorem RB_10 (R : RBx BI BA MI MA g G) {v : Nat} (h : v ≤ 7) : RBx (upd BI 10 (nI v)) BA (upd MI 12 (nI v)) MA (va_up g 10 v) G := by
  obtain ⟨vx, vm, w, h1, h2, h3⟩ := R
  exact ⟨VX_10 vx v, VM_10 vm v, WF_10 w h, h1, h2, h3⟩
theorem RB_11 (R : RBx BI BA MI MA g G) {v : Nat} (h : v ≤ 9) : RBx (upd BI 11 (nI v)) BA (upd MI 11 (nI v)) MA (va_up g 11 v) G := by
  obtain ⟨vx, vm, w, h1, h2, h3⟩ := R
  exact ⟨VX_11 vx v, VM_11 vm v, WF_11 w h, h1, h2, h3⟩
theorem RB_7 (R : RBx BI BA MI MA g G) (k : Nat) {v : Nat} (h : v ≤ 2) : RBx BI (va_up BA 7 (upd (BA 7) k (nI v))) MI (va_up MA 8 (upd (MA 8) k (nI v))) g (G_k G 7 k v) := by
  obtain ⟨vx, vm, w, h1, h2, h3⟩ := R
  exact ⟨VX_7 vx k v, VM_7 vm k v, WF_7 w k h, h1, h2, h3⟩
theorem RB_8 (R : RBx BI BA MI MA g G) (k : Nat) {v : Nat} (h : v ≤ 9) : RBx BI (va_up BA 8 (upd (BA 8) k (nI v))) MI (va_up MA 9 (upd (MA 9) k (nI v))) g (G_k G 8 k v) := by
  obtain ⟨vx, vm, w, h1, h2, h3⟩ := R
  exact ⟨VX_8 vx k v, VM_8 vm k v, WF_8 w k h, h1, h2, h3⟩
theorem x_miss (R : RBx BI BA MI MA g G) : f_X0_isMissing BI = some (if g 3 = 0 then 1 else 0) := by
  obtain ⟨vx, vm, w, h1, h2, h3⟩ := R
  have w0 := w.1
  unfold f_X0_isMissing
  rw [vx.1]
  simp only [s_eq0 (show g 0 < 2147483648 by omega), h1]
  split <;> rfl
theorem m_miss (R : RBx BI BA MI MA g G) : MI 4 = 0 ↔ g 3 = 0 := by
  have w3 := R.2.2.1.2.1
  rw [R.2.1.2.1, s_eq0 (by omega)]
theorem e_ofPost (h : RLw tr fa BI BA LN SZ CE MI MA) (a1 a2 : Int32) : ∃ r, f_X4_ofPost BI BA a1 a2 = some r ∧ f_X5_ofPost MI MA a1 a2 = some r := by
  obtain ⟨g, G, ⟨vx, vm, w, -⟩, -⟩ := h
  unfold f_X4_ofPost f_X5_ofPost
  have w0 := w.1
  rcases px vx vm w a1 with ⟨j, hj, rfl, e1, e2⟩ | ⟨e1, e2⟩
  · rw [e1, e2, s_cl (show j < 2147483648 by omega)]
    simp only [ibn, ↓reduceIte, i10, if_neg (gdc (show j < 4 by omega) (by decide))]
    have hp := vx.2.2.2.2.2.2.2.1 j hj
    have hm := vm.2.2.2.2.2.2.2.1 j hj
    rw [hp.1, hp.2, hm.1, hm.2]
    exact ex_ite ⟨_, rfl, rfl⟩ (ex_ite ⟨_, rfl, rfl⟩ ⟨_, rfl, rfl⟩)
  · rw [e1, e2]
    exact ⟨_, rfl, rfl⟩
theorem e_ofSilence (h : RLw tr fa BI BA LN SZ CE MI MA) (a1 a2 : Int32) : ∃ r, f_X4_ofSilence BI BA a1 a2 = some r ∧ f_X5_ofSilence MI MA a1 a2 = some r := by
  obtain ⟨g, G, ⟨vx, vm, w, h1, h12, h3⟩, -⟩ := h
  unfold f_X4_ofSilence f_X5_ofSilence
  have w3 := w.2.1
  have w9 := w.2.2.1
  rcases sx vx vm w a1 with ⟨j, hj, rfl, e1, e2⟩ | ⟨e1, e2⟩
  · have hs := vx.2.2.2.2.2.2.2.2.1 j hj
    have hm := vm.2.2.2.2.2.2.2.2.1 j hj
    have hd : dutV g G j = bitN (g 10) (G 4 j) := by unfold dutV; rw [if_neg (by omega)]
    rw [e1, e2, s_cl (show j < 2147483648 by omega), x_gradeOf vx w hj, x_weightOf vx w hj, m_gradeOf vm w hj, x_isDeclared vx w (by omega), x_isDutiable vx w hj, m_isDutiable vm w hj, vm.2.2.1, m_isIn (by omega) (by omega), hd]
    simp only [ibn, ↓reduceIte, i10, if_neg (gdc (show j < 4 by omega) (by decide))]
    rw [hs.1, hs.2.1, hs.2.2.1, hs.2.2.2, hm.1, hm.2.1, hm.2.2.1, hm.2.2.2, s_mul]
    exact ex_ite ⟨_, rfl, rfl⟩ (ex_ite ⟨_, rfl, rfl⟩ (ex_ite ⟨_, rfl, rfl⟩ (ex_ite ⟨_, rfl, rfl⟩ (ex_ite ⟨_, rfl, rfl⟩ (ex_ite ⟨_, rfl, rfl⟩ (ex_ite (ex_ite ⟨_, rfl, rfl⟩ ⟨_, rfl, rfl⟩) (ex_ite (ex_ite ⟨_, rfl, rfl⟩ ⟨_, rfl, rfl⟩) ⟨_, rfl, rfl⟩)))))))
  · rw [e1, e2]
    exact ⟨_, rfl, rfl⟩
theorem e_free (h : RLw tr fa BI BA LN SZ CE MI MA) (a1 : Int32) : ∃ r BI' MI', f_X4_free BI a1 = some (r, BI') ∧ f_X5_free MI a1 = some (r, MI') ∧ RLw tr fa BI' BA LN SZ CE MI' MA := by
  have H := h
  obtain ⟨g, G, R, S, t, f⟩ := h
  unfold f_X4_free f_X5_free
  rw [li9, show (9 : Int64) = lN 9 from rfl, x_miss R]
  rcases wi a1 (N := 9) (by decide) with ⟨v, hv, rfl, e1, e2⟩ | ⟨e1, e2⟩
  · rw [e1, e2]
    simp only [ibn, ↓reduceIte, i10, m_miss R]
    by_cases q : g 3 = 0
    · simp only [if_pos q, i10, ↓reduceIte]
      exact ⟨_, _, _, rfl, rfl, H⟩
    · simp only [if_neg q, ↓reduceIte]
      refine ⟨_, _, _, rfl, ?_, ⟨_, _, RB_11 R hv, S, ?_, ?_⟩⟩
      · rw [R.1.2.2.2.2.1, R.2.1.2.2.2.2.1]
      · rw [uu_n _ _ (by decide), t]
      · rw [uu_n _ _ (by decide), f]
  · rw [e1, e2]
    exact ⟨_, _, _, rfl, rfl, H⟩
theorem e_law (h : RLw tr fa BI BA LN SZ CE MI MA) (a1 : Int32) : ∃ r BI' MI', f_X4_law BI a1 = some (r, BI') ∧ f_X5_law MI a1 = some (r, MI') ∧ RLw tr fa BI' BA LN SZ CE MI' MA := by
  have H := h
  obtain ⟨g, G, R, S, t, f⟩ := h
  unfold f_X4_law f_X5_law
  rw [li7, show (7 : Int64) = lN 7 from rfl, x_miss R]
  rcases wi a1 (N := 7) (by decide) with ⟨v, hv, rfl, e1, e2⟩ | ⟨e1, e2⟩
  · rw [e1, e2]
    simp only [ibn, ↓reduceIte, i10, m_miss R]
    by_cases q : g 3 = 0
    · simp only [if_pos q, i10, ↓reduceIte]
      exact ⟨_, _, _, rfl, rfl, H⟩
    · simp only [if_neg q, ↓reduceIte]
      refine ⟨_, _, _, rfl, ?_, ⟨_, _, RB_10 R hv, S, ?_, ?_⟩⟩
      · rw [R.1.2.2.2.1, R.2.1.2.2.2.1]
      · rw [uu_n _ _ (by decide), t]
      · rw [uu_n _ _ (by decide), f]
  · rw [e1, e2]
    exact ⟨_, _, _, rfl, rfl, H⟩
theorem e_carry (h : RLw tr fa BI BA LN SZ CE MI MA) (a1 a2 : Int32) : ∃ r BA' MA', f_X4_carry BI BA a1 a2 = some (r, BA') ∧ f_X5_carry MI MA a1 a2 = some (r, MA') ∧ RLw tr fa BI BA' LN SZ CE MI MA' := by
  have H := h
  obtain ⟨g, G, R, S, t, f⟩ := h
  obtain ⟨vx, vm, w, -⟩ := id R
  have w3 := w.2.1
  unfold f_X4_carry f_X5_carry
  rcases sx vx vm w a1 with ⟨j, hj, rfl, e1, e2⟩ | ⟨e1, e2⟩
  · rw [e1, e2]
    simp only [ibn, ↓reduceIte, i10]
    rcases cx a2 with ⟨c, hc, rfl, e3, e4⟩ | ⟨e3, e4⟩
    · rw [e3, e4, s_cl (show j < 2147483648 by omega)]
      simp only [ibn, ↓reduceIte, i10, if_neg (gdc (show j < 4 by omega) (by decide))]
      have hs := vx.2.2.2.2.2.2.2.2.1 j hj
      have hm := vm.2.2.2.2.2.2.2.2.1 j hj
      refine ⟨_, _, _, rfl, ?_, ⟨_, _, RB_7 R j (show c ≤ 2 by omega), RS_o S (by decide) (by decide) (by decide) _, t, f⟩⟩
      rw [hs.2.2.2, hm.2.2.2]
    · rw [e3, e4]
      exact ⟨_, _, _, rfl, rfl, H⟩
  · rw [e1, e2]
    exact ⟨_, _, _, rfl, rfl, H⟩
theorem e_hum (h : RLw tr fa BI BA LN SZ CE MI MA) (a1 a2 : Int32) : ∃ r BA' MA', f_X4_hum BI BA a1 a2 = some (r, BA') ∧ f_X5_hum MI MA a1 a2 = some (r, MA') ∧ RLw tr fa BI BA' LN SZ CE MI MA' := by
  have H := h
  obtain ⟨g, G, R, S, t, f⟩ := h
  obtain ⟨vx, vm, w, -⟩ := id R
  unfold f_X4_hum f_X5_hum
  rw [x_miss R]
  rcases cx a1 with ⟨c, hc, rfl, e3, e4⟩ | ⟨e3, e4⟩
  · rw [e3, e4, s_cl (show c < 2147483648 by omega), li9, show (9 : Int64) = lN 9 from rfl]
    rcases wi a2 (N := 9) (by decide) with ⟨v, hv, rfl, e1, e2⟩ | ⟨e1, e2⟩
    · rw [e1, e2]
      simp only [ibn, ↓reduceIte, i10, m_miss R, if_neg (gdc hc (by decide))]
      by_cases q : g 3 = 0
      · simp only [if_pos q, i10, ↓reduceIte]
        exact ⟨_, _, _, rfl, rfl, H⟩
      · simp only [if_neg q, ↓reduceIte]
        refine ⟨_, _, _, rfl, ?_, ⟨_, _, RB_8 R c hv, RS_o S (by decide) (by decide) (by decide) _, t, f⟩⟩
        rw [vx.2.2.2.2.2.2.2.2.2.1 c hc, vm.2.2.2.2.2.2.2.2.2.1 c hc]
    · rw [e1, e2]
      exact ⟨_, _, _, rfl, rfl, H⟩
  · rw [e3, e4]
    exact ⟨_, _, _, rfl, rfl, H⟩
theorem e_declare (h : RLw tr fa BI BA LN SZ CE MI MA) (a1 a2 : Int32) (h2 : a2 = 0 ∨ a2 = 1) : ∃ r BI' MI', f_X4_declare BI a1 a2 = some (r, BI') ∧ f_X5_declare MI a1 a2 = some (r, MI') ∧ RLw tr fa BI' BA LN SZ CE MI' MA := by
  have H := h
  obtain ⟨g, G, R, S, t, f⟩ := h
  obtain ⟨vx, vm, w, -, -, h9⟩ := id R
  have w3 := w.2.1
  have w9 := w.2.2.1
  unfold f_X4_declare f_X5_declare jb_X5_declare_45
  rcases sx vx vm w a1 with ⟨j, hj, rfl, e1, e2⟩ | ⟨e1, e2⟩
  · have b1 := dcl_1 (g 9) w9 j (by omega)
    have b2 := dcl_2 (g 3) (by omega) j hj (g 9) h9
    have b3 := dcl_3 (g 9) w9 j (by omega)
    have b4 := dcl_4 (g 9) w9 j (by omega)
    have hR := RB_9 R b2
    have fin : RLw tr fa (upd BI 9 (nI (g 9 ^^^ 2 ^ j))) BA LN SZ CE (upd MI 10 (nI (g 9 ^^^ 2 ^ j))) MA := ⟨_, _, hR, S, by rw [uu_n _ _ (by decide), t], by rw [uu_n _ _ (by decide), f]⟩
    rw [e1, e2, x_isDeclared vx w (by omega), vm.2.2.1, vx.2.2.1, m_isIn (by omega) (by omega), b1]
    simp only [ibn, ↓reduceIte, i10]
    have hself : upd MI 10 (nI (g 9)) = MI := by rw [← vm.2.2.1, uu_self]
    have hb := bitN_lt (g 9) j
    rcases (show bitN (g 9) j = 0 ∨ bitN (g 9) j = 1 by omega) with q | q
    · rw [q, (b4 q).1, (b4 q).2, show nI 0 = (0 : Int32) from rfl]
      rcases h2 with rfl | rfl
      · rw [if_pos rfl, if_pos rfl, if_pos rfl, hself]
        exact ⟨_, _, _, rfl, rfl, H⟩
      · rw [if_neg (by decide), if_neg (by decide), if_neg (by decide)]
        exact ⟨_, _, _, rfl, rfl, fin⟩
    · rw [q, (b3 q).1, (b3 q).2, show nI 1 = (1 : Int32) from rfl]
      rcases h2 with rfl | rfl
      · rw [if_neg (by decide), if_pos rfl, if_neg (by decide)]
        exact ⟨_, _, _, rfl, rfl, fin⟩
      · rw [if_pos rfl, if_neg (by decide), if_pos rfl, hself]
        exact ⟨_, _, _, rfl, rfl, H⟩
  · rw [e1, e2]
    exact ⟨_, _, _, rfl, rfl, H⟩
theorem e_duty (h : RLw tr fa BI BA LN SZ CE MI MA) (a1 : Int32) : ∃ r, f_X4_duty BI BA a1 = some r ∧ f_X5_duty MI MA a1 = some r := by
  obtain ⟨g, G, ⟨vx, vm, w, -⟩, -⟩ := h
  unfold f_X4_duty f_X5_duty
  rcases px vx vm w a1 with ⟨j, hj, rfl, e1, e2⟩ | ⟨e1, e2⟩
  · rw [e1, e2, x_dutyAt vx w hj, m_dutyAt vm w hj]
    exact ⟨_, rfl, rfl⟩
  · rw [e1, e2]
    exact ⟨_, rfl, rfl⟩
theorem e_said (h : RLw tr fa BI BA LN SZ CE MI MA) (a1 : Int32) : ∃ r, f_X4_said BI BA a1 = some (r, BI) ∧ f_X5_said MI MA a1 = some (r, MI) := by
  obtain ⟨g, G, R, S, t, f⟩ := h
  obtain ⟨vx, vm, w, -, -, h9⟩ := id R
  have hq := pw_le w.2.1
  have hq0 := pw_pos (g 3)
  unfold f_X4_said f_X5_said
  rw [li1, show (1 : Int64) = lN 1 from rfl, x_miss R, x_all vx w]
  rcases wi a1 (N := 1) (by decide) with ⟨v, hv, e0, e1, e2⟩ | ⟨e1, e2⟩
  · rw [e1, e2]
    simp only [ibn, ↓reduceIte, i10, m_miss R]
    by_cases q : g 3 = 0
    · simp only [if_pos q, i10, ↓reduceIte]
      exact ⟨_, rfl, rfl⟩
    · simp only [if_neg q, ↓reduceIte]
      generalize hfu : 1000 = fu
      obtain ⟨B, hB, hx⟩ := x_sd vx w (fun el3_48 el4_48 el5_48 eBI_48 => if a1 = 0 then (some (el3_48, upd eBI_48 9 (BI 9))) else (some (el4_48, upd eBI_48 9 (BI 9)))) (2 ^ g 3) hq (2 ^ g 3) fu (Nat.le_refl _) (by omega) BI (fun _ => rfl)
      obtain ⟨M, hM, hm⟩ := m_sd vm w (fun el3_37 el4_37 el5_37 eMI_37 => if a1 = 0 then (some (el3_37, upd eMI_37 10 (MI 10))) else (some (el4_37, upd eMI_37 10 (MI 10)))) (2 ^ g 3) fu 0 0 99 (by omega) (by omega) (Or.inr rfl) MI (fun _ => rfl) rfl
      rw [Nat.sub_self, show (nI (2 ^ g 3)) + (-1) = nI (2 ^ g 3 - 1) from by rw [show (-1 : Int32) = - nI 1 from rfl, ← Int32.sub_eq_add_neg, pk_sub (by omega)]] at hx
      rw [show lp_X4_said_48 (fun el3_48 el4_48 el5_48 eBI_48 => if a1 = 0 then (some (el3_48, upd eBI_48 9 (BI 9))) else (some (el4_48, upd eBI_48 9 (BI 9)))) BA fu 0 (-9) (nI (2 ^ g 3 - 1)) BI = _ from hx, show lp_X5_said_37 (fun el3_37 el4_37 el5_37 eMI_37 => if a1 = 0 then (some (el3_37, upd eMI_37 10 (MI 10))) else (some (el4_37, upd eMI_37 10 (MI 10)))) MA fu 0 (-9) 0 MI = _ from hm, hB, hM, uu_self, uu_self, Nat.zero_add, if_pos rfl]
      by_cases q0 : a1 = 0
      · rw [if_pos q0, if_pos q0]; exact ⟨_, rfl, rfl⟩
      · rw [if_neg q0, if_neg q0]; exact ⟨_, rfl, rfl⟩
  · rw [e1, e2]
    exact ⟨_, rfl, rfl⟩
theorem e_frees (h : RLw tr fa BI BA LN SZ CE MI MA) : ∃ r, f_X4_frees BI BA = some (r, BI) ∧ f_X5_frees MI MA = some (r, MI) := by
  obtain ⟨g, G, R, S, t, f⟩ := h
  obtain ⟨vx, vm, w, -, -, h9⟩ := id R
  unfold f_X4_frees f_X5_frees
  rw [x_miss R]
  simp only [ibn, m_miss R]
  by_cases q : g 3 = 0
  · simp only [if_pos q, i10, ↓reduceIte]
    exact ⟨_, rfl, rfl⟩
  · simp only [if_neg q, ↓reduceIte]
    generalize hfu : 1000 = fu
    obtain ⟨B, hB, hx⟩ := x_fr vx w (fun el2_25 el3_25 eBI_25 => some (el2_25, upd eBI_25 11 (BI 11))) 10 fu 0 0 rfl (by omega) BI (fun _ => rfl)
    obtain ⟨M, hM, hm⟩ := m_fr vm w (fun el2_19 el3_19 eMI_19 => some (el2_19, upd eMI_19 11 (MI 11))) 10 fu 0 0 rfl (by omega) MI (fun _ => rfl)
    rw [show (0 : Int32) = nI 0 from rfl, show nI 0 = (0 : Int32) from rfl] 
    rw [show nI 0 = (0 : Int32) from rfl] at hx hm
    rw [hx, hm, hB, hM, uu_self, uu_self]
    exact ⟨_, rfl, rfl⟩
theorem e_laws (h : RLw tr fa BI BA LN SZ CE MI MA) : ∃ r, f_X4_laws BI BA = some (r, BI) ∧ f_X5_laws MI MA = some (r, MI) := by
  obtain ⟨g, G, R, S, t, f⟩ := h
  obtain ⟨vx, vm, w, -, -, h9⟩ := id R
  unfold f_X4_laws f_X5_laws
  rw [x_miss R]
  simp only [ibn, m_miss R]
  by_cases q : g 3 = 0
  · simp only [if_pos q, i10, ↓reduceIte]
    exact ⟨_, rfl, rfl⟩
  · simp only [if_neg q, ↓reduceIte]
    generalize hfu : 1000 = fu
    obtain ⟨B, hB, hx⟩ := x_lw vx w (fun el2_25 el3_25 eBI_25 => some (el2_25, upd eBI_25 10 (BI 10))) 8 fu 0 0 rfl (by omega) BI (fun _ => rfl)
    obtain ⟨M, hM, hm⟩ := m_lw vm w (fun el2_19 el3_19 eMI_19 => some (el2_19, upd eMI_19 12 (MI 12))) 8 fu 0 0 rfl (by omega) MI (fun _ => rfl)
    rw [show nI 0 = (0 : Int32) from rfl] at hx hm
    rw [hx, hm, hB, hM, uu_self, uu_self]
    exact ⟨_, rfl, rfl⟩
theorem e_kinds (h : RLw tr fa BI BA LN SZ CE MI MA) (a1 : Int32) : ∃ r, f_X4_kinds BI BA a1 = some (r, BA) ∧ f_X5_kinds MI MA a1 = some (r, MA) := by
  obtain ⟨g, G, R, S, t, f⟩ := h
  obtain ⟨vx, vm, w, -, -, h9⟩ := id R
  have w3 := w.2.1
  unfold f_X4_kinds f_X5_kinds
  rcases sx vx vm w a1 with ⟨j, hj, rfl, e1, e2⟩ | ⟨e1, e2⟩
  · rw [e1, e2, s_cl (show j < 2147483648 by omega)]
    simp only [ibn, ↓reduceIte, i10, if_neg (gdc (show j < 4 by omega) (by decide))]
    generalize hfu : 1000 = fu
    obtain ⟨B, hB, hx⟩ := x_kd vx w hj (fun el3_28 el4_28 eBA_28 => some (el3_28, va_up eBA_28 4 (upd (eBA_28 4) j (BA 4 j)))) 3 fu 0 0 rfl (by omega) BA (fun _ => rfl)
    obtain ⟨M, hM, hm⟩ := m_kd vm w hj (fun el3_22 el4_22 eMA_22 => some (el3_22, va_up eMA_22 5 (upd (eMA_22 5) j (MA 5 j)))) 3 fu 0 0 rfl (by omega) MA (fun _ => rfl)
    rw [show nI 0 = (0 : Int32) from rfl] at hx hm
    rw [hx, hm, hB, hM, uu_self, vv_self, uu_self, vv_self]
    exact ⟨_, rfl, rfl⟩
  · rw [e1, e2]
    exact ⟨_, rfl, rfl⟩
theorem e_many (h : RLw tr fa BI BA LN SZ CE MI MA) (a1 : Int32) : ∃ r, f_X4_many BI a1 = some r ∧ f_X5_many MI a1 = some r := by
  obtain ⟨g, G, ⟨vx, vm, -⟩, S, t, f⟩ := h
  unfold f_X4_many f_X5_many
  rw [vx.1, vx.2.1, vx.2.2.2.2.1, vx.2.2.2.1, vx.2.2.2.2.2.2.1, vm.1, vm.2.1, vm.2.2.2.2.1, vm.2.2.2.1, vm.2.2.2.2.2.2.1]
  exact ex_ite ⟨_, rfl, rfl⟩ (ex_ite ⟨_, rfl, rfl⟩ (ex_ite ⟨_, rfl, rfl⟩ (ex_ite ⟨_, rfl, rfl⟩ (ex_ite ⟨_, rfl, rfl⟩ ⟨_, rfl, rfl⟩))))
end CF
