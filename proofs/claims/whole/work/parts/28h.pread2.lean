/-! reading the posts and the silences, side by side -/
def NW (g : Nat → Nat) (G : Nat → Nat → Nat) : Prop := WF g G ∧ g 9 = 2 ^ g 3 - 1 ∧ g 10 = 7 ∧ g 12 = 99 ∧ g 13 = 0 ∧ (∀ k, k < g 3 → G 7 k = 0) ∧ (∀ c, c < 3 → G 8 c = 0)
def PT (MI : Nat → Int32) (MA : Nat → Nat → Int32) (g : Nat → Nat) (G : Nat → Nat → Nat) (x : Nat) : Prop := MI 14 = nI x ∧ MI 15 = nI (g 11) ∧ MI 16 = nI (g 0) ∧ MI 17 = nI (g 3) ∧ (∀ y, y < g 0 → MA 18 y = nI (G 1 y) ∧ MA 19 y = nI (G 2 y)) ∧ (∀ y, y < g 3 → MA 20 y = nI (G 4 y) ∧ MA 21 y = nI (G 5 y) ∧ MA 22 y = nI (G 6 y))
section RD
variable {SI : Nat → Int32} {SA : Nat → Nat → Int32} {MI : Nat → Int32} {MA : Nat → Nat → Int32} {g : Nat → Nat} {G : Nat → Nat → Nat} {ce : Nat → Int32} {j i n s : Nat}
theorem VX_p (V : VX SI SA g G) (h130 : g 13 = 0) (v1 v2 : Nat) : VX (upd SI 0 (nI (g 0 + 1))) (va_up (va_up SA 1 (upd (SA 1) (g 0) (nI v1))) 2 (upd (SA 2) (g 0) (nI v2))) (va_up g 0 (g 0 + 1)) (G_k (G_k G 1 (g 0) v1) 2 (g 0) v2) := by
  obtain ⟨h0, h3, h9, h10, h11, h12, h13, hp, hs, hc, hr⟩ := V
  refine ⟨?_, h3, h9, h10, h11, h12, h13, fun p hp' => ?_, fun x hx => ?_, fun c hc' => ?_, fun x hx => ?_⟩
  · simp [upd, va_up]
  · by_cases e : p = g 0
    · subst e; simp [va_up, G_k, upd]
    · have hx2 : p < g 0 := by
        simp [va_up] at hp'
        omega
      simpa [va_up, G_k, upd, e] using hp p hx2
  · simpa [va_up, G_k] using hs x hx
  · simpa [va_up, G_k] using hc c hc'
  · simp [va_up, h130] at hx
theorem NW_p (w : NW g G) {v1 v2 : Nat} (h : g 0 < 4) (h1 : 1 ≤ v1) (h2 : v1 ≤ 9) (h3 : v2 ≤ 9) : NW (va_up g 0 (g 0 + 1)) (G_k (G_k G 1 (g 0) v1) 2 (g 0) v2) := by
  obtain ⟨⟨w0, w3, w9, w10, w11, w12, w13, wp, ws, wc, wr⟩, n1, n2, n3, n4, n5, n6⟩ := w
  refine ⟨⟨?_, w3, w9, w10, w11, w12, w13, fun p hp' => ?_, fun x hx => ?_, fun c hc' => ?_, fun x hx => ?_⟩, n1, n2, n3, n4, n5, n6⟩
  · simp [va_up]; omega
  · by_cases e : p = g 0
    · subst e; simp [va_up, G_k, h1, h2, h3]
    · have hx2 : p < g 0 := by
        simp [va_up] at hp'
        omega
      simpa [va_up, G_k, e] using wp p hx2
  · simpa [va_up, G_k] using ws x hx
  · simpa [va_up, G_k] using wc c hc'
  · simp [va_up, n4] at hx
theorem PT_p {x' x : Nat} (P : PT MI MA g G x) (v1 v2 : Nat) : PT (upd (upd MI 14 (nI x')) 16 (nI (g 0 + 1))) (va_up (va_up MA 18 (upd (MA 18) (g 0) (nI v1))) 19 (upd (MA 19) (g 0) (nI v2))) (va_up g 0 (g 0 + 1)) (G_k (G_k G 1 (g 0) v1) 2 (g 0) v2) x' := by
  obtain ⟨p1, p2, p3, p4, p5, p6⟩ := P
  refine ⟨rfl, p2, rfl, p4, fun y hy => ?_, fun y hy => ?_⟩
  · by_cases e : y = g 0
    · subst e; simp [va_up, G_k, upd]
    · have hx2 : y < g 0 := by
        simp [va_up] at hy
        omega
      simpa [va_up, G_k, upd, e] using p5 y hx2
  · simpa [va_up, G_k] using p6 y hy
theorem m_code (hj : j < 4) (hin : i + n ≤ s) (hs : s ≤ 60) (hc : ∀ x, x < s → ce x = MA 31 (60 * j + x)) {x : Nat} (hx : x ≤ 60) (h : MI 14 = nI x) : f_X5_codeAt MI MA (nI (60 * j + i)) (nI n) = some (cdF ce i n x) := by
  unfold f_X5_codeAt cdF
  rw [h]
  by_cases q : x < n
  · rw [if_neg (show ¬ nI n ≤ nI x by rw [s_le (by omega) (by omega)]; omega), if_pos q, s_add, s_cl (by omega), if_neg (gdc (show 60 * j + i + x < 240 by omega) (by decide)), hc _ (by omega), Nat.add_assoc]
  · rw [if_pos (show nI n ≤ nI x by rw [s_le (by omega) (by omega)]; omega), if_neg q]
theorem m_fig (hj : j < 4) (hin : i + n ≤ s) (hs : s ≤ 60) (hc : ∀ x, x < s → ce x = MA 31 (60 * j + x)) {x lo : Nat} (hl : lo ≤ 1) (hx : x ≤ 60) (h : MI 14 = nI x) : (∃ v, lo ≤ v ∧ v ≤ 9 ∧ x < n ∧ cdF ce i n x = nI (48 + v) ∧ f_X5_figure MI MA (nI (60 * j + i)) (nI n) (nI lo) = some (nI v, upd MI 14 (nI (x + 1)))) ∨ ((cdF ce i n x < nI (48 + lo) ∨ ¬ cdF ce i n x ≤ 57) ∧ f_X5_figure MI MA (nI (60 * j + i)) (nI n) (nI lo) = some (-9, MI)) := by
  unfold f_X5_figure jb_X5_figure_39
  rw [m_code hj hin hs hc hx h, ibn, h]
  rcases dgc (cdF ce i n x) hl with ⟨v, h1, h2, h3, h4⟩ | ⟨h1, h4⟩
  · left
    refine ⟨v, h1, h2, cd_lt (by rw [h3]; exact nI_pos (by omega)), h3, ?_⟩
    rw [h4, ibn, if_neg i10, if_neg i10, h3, show (48 : Int32) = nI 48 from rfl, pk_sub (by omega), Nat.add_sub_cancel_left, nI_1]
  · right
    refine ⟨h1, ?_⟩
    rw [h4, ibn, if_pos rfl, if_pos rfl, Int32.add_zero, ← h, uu_self]
/-- one post -/
theorem sp {x : Nat} (V : VX SI SA g G) (w : NW g G) (P : PT MI MA g G x) (hj : j < 4) (hin : i + n ≤ s) (hs : s ≤ 60) (hc : ∀ x, x < s → ce x = MA 31 (60 * j + x)) (hx : x ≤ n) (hp : g 0 < 4) (K : Int32 → (Nat → Int32) → (Nat → Nat → Int32) → Option (Int32 × Int32 × (Nat → Int32) × (Nat → Nat → Int32))) :
    (∃ x', x' ≤ n ∧ (Option.bind (f_X2_takes (nI i) (nI n) (nI x) (nI s) ce (59 : Int32) (59 : Int32)) fun r27 => if r27.1 = 0 then (some ((0 : Int32), r27.2, SI, SA)) else (Option.bind (f_X2_takes (nI i) (nI n) r27.2 (nI s) ce (49 : Int32) (57 : Int32)) fun r38 => if r38.1 = 0 then (some ((0 : Int32), r38.2, SI, SA)) else (Option.bind (f_X2_takes (nI i) (nI n) r38.2 (nI s) ce (48 : Int32) (57 : Int32)) fun r49 => if r49.1 = 0 then (some ((0 : Int32), r49.2, SI, SA)) else (Option.bind (f_X2_digitBefore (nI i) r49.2 (nI s) ce (2 : Int32)) fun r60 => Option.bind (f_X2_digitBefore (nI i) r49.2 (nI s) ce (1 : Int32)) fun r65 => Option.bind (f_X0_addPost SI SA r60 r65) fun r68 => K r49.2 r68.1 r68.2)))) = some (0, nI x', SI, SA) ∧ f_X5_readsPost MI MA (nI (60 * j + i)) (nI n) = some (0, upd MI 14 (nI x'), MA)) ∨
    (∃ v1 v2, 1 ≤ v1 ∧ v1 ≤ 9 ∧ v2 ≤ 9 ∧ x + 3 ≤ n ∧ (Option.bind (f_X2_takes (nI i) (nI n) (nI x) (nI s) ce (59 : Int32) (59 : Int32)) fun r27 => if r27.1 = 0 then (some ((0 : Int32), r27.2, SI, SA)) else (Option.bind (f_X2_takes (nI i) (nI n) r27.2 (nI s) ce (49 : Int32) (57 : Int32)) fun r38 => if r38.1 = 0 then (some ((0 : Int32), r38.2, SI, SA)) else (Option.bind (f_X2_takes (nI i) (nI n) r38.2 (nI s) ce (48 : Int32) (57 : Int32)) fun r49 => if r49.1 = 0 then (some ((0 : Int32), r49.2, SI, SA)) else (Option.bind (f_X2_digitBefore (nI i) r49.2 (nI s) ce (2 : Int32)) fun r60 => Option.bind (f_X2_digitBefore (nI i) r49.2 (nI s) ce (1 : Int32)) fun r65 => Option.bind (f_X0_addPost SI SA r60 r65) fun r68 => K r49.2 r68.1 r68.2)))) = K (nI (x + 3)) (upd SI 0 (nI (g 0 + 1))) (va_up (va_up SA 1 (upd (SA 1) (g 0) (nI v1))) 2 (upd (SA 2) (g 0) (nI v2))) ∧ f_X5_readsPost MI MA (nI (60 * j + i)) (nI n) = some (1, upd (upd MI 14 (nI (x + 3))) 16 (nI (g 0 + 1)), va_up (va_up MA 18 (upd (MA 18) (g 0) (nI v1))) 19 (upd (MA 19) (g 0) (nI v2)))) := by
  obtain ⟨p1, p2, p3, p4, p5, p6⟩ := P
  unfold f_X5_readsPost jb_X5_readsPost_55
  rw [p3, if_neg (show ¬ nI (g 0) = 4 by rw [li4, s_eq (by omega) (by omega)]; omega), m_code hj hin hs hc (by omega) p1, ibn, p1, nI_1]
  by_cases q : cdF ce i n x = 59
  · have hxn : x < n := cd_lt (by rw [q]; decide)
    rw [if_pos q, t_y hin hs (by omega) (by rw [q]; decide) (by rw [q]; decide), ibn]
    simp only [if_neg i10]
    rcases m_fig (MI := upd MI 14 (nI (x + 1))) hj hin hs hc (x := x + 1) (lo := 1) (by decide) (by omega) (uu_s _ _ _) with ⟨v1, a1, a2, a3, a4, a5⟩ | ⟨a1, a2⟩
    · rw [show f_X5_figure (upd MI 14 (nI (x + 1))) MA (nI (60 * j + i)) (nI n) 1 = _ from a5, t_y hin hs (by omega) (by rw [a4]; show ¬ nI (48 + v1) < nI 49; rw [s_lt (by omega) (by omega)]; omega) (by rw [a4]; show nI (48 + v1) ≤ nI 57; rw [s_le (by omega) (by omega)]; omega), uu_u]
      simp only [ibn, if_neg i10, if_pos (nI_pos' (show v1 < 2147483648 by omega))]
      rcases m_fig (MI := upd MI 14 (nI (x + 1 + 1))) hj hin hs hc (x := x + 1 + 1) (lo := 0) (by decide) (by omega) (uu_s _ _ _) with ⟨v2, b1, b2, b3, b4, b5⟩ | ⟨b1, b2⟩
      · right
        refine ⟨v1, v2, a1, a2, b2, by omega, ?_, ?_⟩
        · rw [t_y hin hs (by omega) (by rw [b4]; show ¬ nI (48 + v2) < nI 48; rw [s_lt (by omega) (by omega)]; omega) (by rw [b4]; show nI (48 + v2) ≤ nI 57; rw [s_le (by omega) (by omega)]; omega)]
          simp only [ibn, if_neg i10]
          rw [show f_X2_digitBefore (nI i) (nI (x + 1 + 1 + 1)) (nI s) ce 2 = _ from x_dig (k := 2) (x := x + 1) hin hs a3 a4, show f_X2_digitBefore (nI i) (nI (x + 1 + 1 + 1)) (nI s) ce 1 = _ from x_dig (k := 1) (x := x + 1 + 1) hin hs b3 b4]
          simp only [ibn]
          unfold f_X0_addPost
          rw [V.1, if_neg (show ¬ (4 : Int32) ≤ nI (g 0) by rw [li4, s_le (by omega) (by omega)]; omega), s_cl (show g 0 < 2147483648 by omega), if_neg (gdc hp (by decide)), if_neg (gdc hp (by decide)), ibn, nI_1, vv_n _ _ (show (2 : Nat) ≠ 1 by decide)]
        · rw [show f_X5_figure (upd MI 14 (nI (x + 1 + 1))) MA (nI (60 * j + i)) (nI n) 0 = _ from b5]
          simp only [ibn]
          rw [if_pos (nI_pos' (show v2 < 2147483648 by omega)), uu_u, uu_n _ _ (show (16 : Nat) ≠ 14 by decide), p3, s_cl (show g 0 < 2147483648 by omega), if_neg (gdc hp (by decide)), if_neg (gdc hp (by decide)), nI_1, vv_n _ _ (show (19 : Nat) ≠ 18 by decide)]
      · left
        refine ⟨x + 1 + 1, by omega, ?_, ?_⟩
        · rw [t_n (lo := 48) hin hs (by omega) b1]
          simp only [ibn, ↓reduceIte]
        · rw [show f_X5_figure (upd MI 14 (nI (x + 1 + 1))) MA (nI (60 * j + i)) (nI n) 0 = _ from b2]
          simp only [ibn, if_neg (show ¬ (0 : Int32) ≤ -9 by decide)]
    · left
      refine ⟨x + 1, by omega, ?_, ?_⟩
      · rw [t_n (lo := 49) hin hs (by omega) a1]
        simp only [ibn, ↓reduceIte]
      · rw [show f_X5_figure (upd MI 14 (nI (x + 1))) MA (nI (60 * j + i)) (nI n) 1 = _ from a2]
        simp only [ibn, if_neg (show ¬ (0 : Int32) ≤ -9 by decide)]
  · left
    refine ⟨x, hx, ?_, ?_⟩
    · rw [t_n hin hs (by omega) (by
        by_cases h1 : cdF ce i n x < 59
        · exact Or.inl h1
        · right
          intro h2
          apply q
          rw [Int32.lt_iff_toInt_lt] at h1
          rw [Int32.le_iff_toInt_le] at h2
          exact Int32.toInt_inj.mp (by omega))]
      simp only [ibn, ↓reduceIte]
    · rw [if_neg q, ← p1, uu_self]
end RD
