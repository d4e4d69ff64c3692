/-! one silence -/
section RE
variable {SI : Nat → Int32} {SA : Nat → Nat → Int32} {MI : Nat → Int32} {MA : Nat → Nat → Int32} {g : Nat → Nat} {G : Nat → Nat → Nat} {ce : Nat → Int32} {j i n s : Nat}
def gS (g : Nat → Nat) : Nat → Nat := va_up (va_up g 9 (2 ^ (g 3 + 1) - 1)) 3 (g 3 + 1)
def GS (G : Nat → Nat → Nat) (k kd v1 v2 : Nat) : Nat → Nat → Nat := G_k (G_k (G_k (G_k G 4 k kd) 5 k v1) 6 k v2) 7 k 0
theorem VX_s (V : VX SI SA g G) (kd v1 v2 : Nat) : VX (upd (upd SI 9 (nI (2 ^ (g 3 + 1) - 1))) 3 (nI (g 3 + 1))) (va_up (va_up (va_up (va_up SA 4 (upd (SA 4) (g 3) (nI kd))) 5 (upd (SA 5) (g 3) (nI v1))) 6 (upd (SA 6) (g 3) (nI v2))) 7 (upd (SA 7) (g 3) 0)) (gS g) (GS G (g 3) kd v1 v2) := by
  obtain ⟨h0, h3, h9, h10, h11, h12, h13, hp, hs, hc, hr⟩ := V
  refine ⟨h0, ?_, ?_, h10, h11, h12, h13, fun p hp' => ?_, fun x hx => ?_, fun c hc' => ?_, fun x hx => ?_⟩
  · simp [upd, va_up, gS]
  · simp [upd, va_up, gS]
  · simpa [va_up, G_k, GS] using hp p hp'
  · by_cases e : x = g 3
    · subst e; simp [va_up, G_k, GS, upd]; rfl
    · have hx2 : x < g 3 := by
        simp [va_up, gS] at hx
        omega
      simpa [va_up, G_k, GS, upd, e] using hs x hx2
  · simpa [va_up, G_k, GS] using hc c hc'
  · simpa [va_up, G_k, GS] using hr x hx
theorem NW_s (w : NW g G) {kd v1 v2 : Nat} (h : g 3 < 4) (h1 : kd ≤ 2) (h2 : v1 ≤ 9) (h3 : v2 ≤ 9) : NW (gS g) (GS G (g 3) kd v1 v2) := by
  obtain ⟨⟨w0, w3, w9, w10, w11, w12, w13, wp, ws, wc, wr⟩, n1, n2, n3, n4, n5, n6⟩ := w
  have hq := pw_le (show g 3 + 1 ≤ 4 by omega)
  have hq0 := pw_pos (g 3 + 1)
  refine ⟨⟨w0, ?_, ?_, w10, w11, w12, w13, fun p hp' => ?_, fun x hx => ?_, fun c hc' => ?_, fun x hx => ?_⟩, ?_, n2, n3, n4, fun x hx => ?_, fun c hc' => ?_⟩
  · simp [va_up, gS]; omega
  · simp [va_up, gS]; omega
  · simpa [va_up, G_k, GS] using wp p hp'
  · by_cases e : x = g 3
    · subst e; simp [va_up, G_k, GS, h1, h2, h3]
    · have hx2 : x < g 3 := by
        simp [va_up, gS] at hx
        omega
      simpa [va_up, G_k, GS, e] using ws x hx2
  · simpa [va_up, G_k, GS] using wc c hc'
  · simpa [va_up, G_k, GS, gS] using wr x hx
  · simp [va_up, gS]
  · by_cases e : x = g 3
    · subst e; simp [va_up, G_k, GS]
    · have hx2 : x < g 3 := by
        simp [va_up, gS] at hx
        omega
      simpa [va_up, G_k, GS, e] using n5 x hx2
  · simpa [va_up, G_k, GS] using n6 c hc'
theorem PT_s {x' x : Nat} (P : PT MI MA g G x) (kd v1 v2 : Nat) : PT (upd (upd MI 14 (nI x')) 17 (nI (g 3 + 1))) (va_up (va_up (va_up MA 20 (upd (MA 20) (g 3) (nI kd))) 21 (upd (MA 21) (g 3) (nI v1))) 22 (upd (MA 22) (g 3) (nI v2))) (gS g) (GS G (g 3) kd v1 v2) x' := by
  obtain ⟨p1, p2, p3, p4, p5, p6⟩ := P
  refine ⟨rfl, p2, p3, rfl, fun y hy => ?_, fun y hy => ?_⟩
  · simpa [va_up, G_k, GS] using p5 y hy
  · by_cases e : y = g 3
    · subst e; simp [va_up, G_k, GS, upd]
    · have hx2 : y < g 3 := by
        simp [va_up, gS] at hy
        omega
      simpa [va_up, G_k, GS, upd, e] using p6 y hx2
theorem kd_c (c : Int32) : (∃ kd, kd ≤ 2 ∧ f_X2_kindOf c = some (nI kd) ∧ ¬ c < 0 ∧ (∀ (α : Type) (A B : Option α), (if c = (115 : Int32) then A else (if c = (107 : Int32) then A else (if c = (104 : Int32) then A else B))) = A) ∧ (∀ r72 s0 MIj, jb_X5_readsSilence_94 MA c r72 s0 MIj = if 0 ≤ s0 then jb_X5_readsSilence_132 MA r72 s0 MIj (nI kd) else some (0, MIj, MA))) ∨ (f_X2_kindOf c = some (-9) ∧ (∀ (α : Type) (A B : Option α), (if c = (115 : Int32) then A else (if c = (107 : Int32) then A else (if c = (104 : Int32) then A else B))) = B)) := by
  by_cases q1 : c = 115
  · subst q1
    left
    exact ⟨0, by decide, rfl, by decide, fun α A B => rfl, fun r72 s0 MIj => rfl⟩
  · by_cases q2 : c = 107
    · subst q2
      left
      exact ⟨1, by decide, rfl, by decide, fun α A B => rfl, fun r72 s0 MIj => rfl⟩
    · by_cases q3 : c = 104
      · subst q3
        left
        exact ⟨2, by decide, rfl, by decide, fun α A B => rfl, fun r72 s0 MIj => rfl⟩
      · right
        refine ⟨?_, fun α A B => ?_⟩
        · unfold f_X2_kindOf
          rw [if_neg q3, if_neg q2, if_neg q1]
        · rw [if_neg q1, if_neg q2, if_neg q3]
theorem or_dec : ∀ k, k < 4 → (nI (2 ^ k - 1) ||| ((1 : Int32) <<< (nI k &&& 31))) = nI (2 ^ (k + 1) - 1) := by decide +kernel
theorem ss {x : Nat} (V : VX SI SA g G) (w : NW g G) (P : PT MI MA g G x) (hj : j < 4) (hin : i + n ≤ s) (hs : s ≤ 60) (hc : ∀ x, x < s → ce x = MA 31 (60 * j + x)) (hx : x ≤ n) (hp : g 3 < 4) (K : Int32 → (Nat → Int32) → (Nat → Nat → Int32) → Option (Int32 × Int32 × (Nat → Int32) × (Nat → Nat → Int32))) :
    (∃ x', x' ≤ n ∧ (Option.bind (f_X2_takes (nI i) (nI n) (nI x) (nI s) ce (44 : Int32) (44 : Int32)) fun r29 => if r29.1 = 0 then (some ((0 : Int32), r29.2, SI, SA)) else (Option.bind (f_X2_code (nI i) (nI n) r29.2 (nI s) ce) fun r38 => Option.bind (f_X2_kindOf r38) fun r41 => if r41 = (-9 : Int32) then (some ((0 : Int32), r29.2, SI, SA)) else (Option.bind (f_X2_takes (nI i) (nI n) (r29.2 + (1 : Int32)) (nI s) ce (49 : Int32) (57 : Int32)) fun r68 => if r68.1 = 0 then (some ((0 : Int32), r68.2, SI, SA)) else (Option.bind (f_X2_takes (nI i) (nI n) r68.2 (nI s) ce (49 : Int32) (57 : Int32)) fun r79 => if r79.1 = 0 then (some ((0 : Int32), r79.2, SI, SA)) else (Option.bind (f_X2_digitBefore (nI i) r79.2 (nI s) ce (2 : Int32)) fun r91 => Option.bind (f_X2_digitBefore (nI i) r79.2 (nI s) ce (1 : Int32)) fun r96 => Option.bind (f_X0_addSilence SI SA r41 r91 r96) fun r99 => K r79.2 r99.1 r99.2))))) = some (0, nI x', SI, SA) ∧ f_X5_readsSilence MI MA (nI (60 * j + i)) (nI n) = some (0, upd MI 14 (nI x'), MA)) ∨
    (∃ kd v1 v2, kd ≤ 2 ∧ v1 ≤ 9 ∧ v2 ≤ 9 ∧ x + 4 ≤ n ∧ (Option.bind (f_X2_takes (nI i) (nI n) (nI x) (nI s) ce (44 : Int32) (44 : Int32)) fun r29 => if r29.1 = 0 then (some ((0 : Int32), r29.2, SI, SA)) else (Option.bind (f_X2_code (nI i) (nI n) r29.2 (nI s) ce) fun r38 => Option.bind (f_X2_kindOf r38) fun r41 => if r41 = (-9 : Int32) then (some ((0 : Int32), r29.2, SI, SA)) else (Option.bind (f_X2_takes (nI i) (nI n) (r29.2 + (1 : Int32)) (nI s) ce (49 : Int32) (57 : Int32)) fun r68 => if r68.1 = 0 then (some ((0 : Int32), r68.2, SI, SA)) else (Option.bind (f_X2_takes (nI i) (nI n) r68.2 (nI s) ce (49 : Int32) (57 : Int32)) fun r79 => if r79.1 = 0 then (some ((0 : Int32), r79.2, SI, SA)) else (Option.bind (f_X2_digitBefore (nI i) r79.2 (nI s) ce (2 : Int32)) fun r91 => Option.bind (f_X2_digitBefore (nI i) r79.2 (nI s) ce (1 : Int32)) fun r96 => Option.bind (f_X0_addSilence SI SA r41 r91 r96) fun r99 => K r79.2 r99.1 r99.2))))) = K (nI (x + 4)) (upd (upd SI 9 (nI (2 ^ (g 3 + 1) - 1))) 3 (nI (g 3 + 1))) (va_up (va_up (va_up (va_up SA 4 (upd (SA 4) (g 3) (nI kd))) 5 (upd (SA 5) (g 3) (nI v1))) 6 (upd (SA 6) (g 3) (nI v2))) 7 (upd (SA 7) (g 3) 0)) ∧ f_X5_readsSilence MI MA (nI (60 * j + i)) (nI n) = some (1, upd (upd MI 14 (nI (x + 4))) 17 (nI (g 3 + 1)), va_up (va_up (va_up MA 20 (upd (MA 20) (g 3) (nI kd))) 21 (upd (MA 21) (g 3) (nI v1))) 22 (upd (MA 22) (g 3) (nI v2)))) := by
  obtain ⟨p1, p2, p3, p4, p5, p6⟩ := P
  unfold f_X5_readsSilence jb_X5_readsSilence_58
  rw [p4, if_neg (show ¬ nI (g 3) = 4 by rw [li4, s_eq (by omega) (by omega)]; omega), m_code hj hin hs hc (by omega) p1, ibn, p1, nI_1, uu_s, uu_u, nI_1]
  by_cases q : cdF ce i n x = 44
  · have hxn : x < n := cd_lt (by rw [q]; decide)
    rw [if_pos q, t_y hin hs (by omega) (by rw [q]; decide) (by rw [q]; decide), m_code (MI := upd MI 14 (nI (x + 1))) hj hin hs hc (show x + 1 ≤ 60 by omega) (uu_s _ _ _)]
    simp only [ibn, if_neg i10]
    rw [x_code hin hs (show x + 1 ≤ 60 by omega), ibn]
    rcases kd_c (MA := MA) (cdF ce i n (x + 1)) with ⟨kd, hkd, k1, k2, k3, k4⟩ | ⟨k1, k3⟩
    · have hx1 : x + 1 < n := cd_lt k2
      rw [k1, ibn, if_neg (fun h => (s_m9 (by omega)).mp h), nI_1, k3]
      rcases m_fig (MI := upd MI 14 (nI (x + 1 + 1))) hj hin hs hc (x := x + 1 + 1) (lo := 1) (by decide) (by omega) (uu_s _ _ _) with ⟨v1, a1, a2, a3, a4, a5⟩ | ⟨a1, a2⟩
      · rw [show f_X5_figure (upd MI 14 (nI (x + 1 + 1))) MA (nI (60 * j + i)) (nI n) 1 = _ from a5, t_y hin hs (by omega) (by rw [a4]; show ¬ nI (48 + v1) < nI 49; rw [s_lt (by omega) (by omega)]; omega) (by rw [a4]; show nI (48 + v1) ≤ nI 57; rw [s_le (by omega) (by omega)]; omega), uu_u]
        simp only [ibn, if_neg i10, if_pos (nI_pos' (show v1 < 2147483648 by omega))]
        rcases m_fig (MI := upd MI 14 (nI (x + 1 + 1 + 1))) hj hin hs hc (x := x + 1 + 1 + 1) (lo := 1) (by decide) (by omega) (uu_s _ _ _) with ⟨v2, b1, b2, b3, b4, b5⟩ | ⟨b1, b2⟩
        · right
          refine ⟨kd, v1, v2, hkd, a2, b2, by omega, ?_, ?_⟩
          · rw [t_y hin hs (by omega) (by rw [b4]; show ¬ nI (48 + v2) < nI 49; rw [s_lt (by omega) (by omega)]; omega) (by rw [b4]; show nI (48 + v2) ≤ nI 57; rw [s_le (by omega) (by omega)]; omega)]
            simp only [ibn, if_neg i10]
            rw [show f_X2_digitBefore (nI i) (nI (x + 1 + 1 + 1 + 1)) (nI s) ce 2 = _ from x_dig (k := 2) (x := x + 1 + 1) hin hs a3 a4, show f_X2_digitBefore (nI i) (nI (x + 1 + 1 + 1 + 1)) (nI s) ce 1 = _ from x_dig (k := 1) (x := x + 1 + 1 + 1) hin hs b3 b4]
            simp only [ibn]
            unfold f_X0_addSilence
            have h9 : SI 9 = nI (2 ^ g 3 - 1) := by rw [V.2.2.1, w.2.1]
            simp only [V.2.1, h9, s_cl (show g 3 < 2147483648 by omega), if_neg (show ¬ (4 : Int32) ≤ nI (g 3) by rw [li4, s_le (by omega) (by omega)]; omega), if_neg (gdc hp (by decide)), ibn]
            rw [or_dec (g 3) hp, uu_n _ _ (show (3 : Nat) ≠ 9 by decide), V.2.1, nI_1, vv_n _ _ (show (5 : Nat) ≠ 4 by decide), vv_n _ _ (show (6 : Nat) ≠ 5 by decide), vv_n _ _ (show (6 : Nat) ≠ 4 by decide), vv_n _ _ (show (7 : Nat) ≠ 6 by decide), vv_n _ _ (show (7 : Nat) ≠ 5 by decide), vv_n _ _ (show (7 : Nat) ≠ 4 by decide)]
          · rw [show f_X5_figure (upd MI 14 (nI (x + 1 + 1 + 1))) MA (nI (60 * j + i)) (nI n) 1 = _ from b5]
            simp only [ibn]
            rw [k4, if_pos (nI_pos' (show v2 < 2147483648 by omega))]
            unfold jb_X5_readsSilence_132
            rw [uu_u, uu_n _ _ (show (17 : Nat) ≠ 14 by decide), p4, s_cl (show g 3 < 2147483648 by omega)]
            simp only [if_neg (gdc hp (by decide))]
            rw [nI_1, vv_n _ _ (show (21 : Nat) ≠ 20 by decide), vv_n _ _ (show (22 : Nat) ≠ 21 by decide), vv_n _ _ (show (22 : Nat) ≠ 20 by decide)]
        · left
          refine ⟨x + 1 + 1 + 1, by omega, ?_, ?_⟩
          · rw [t_n (lo := 49) hin hs (by omega) b1]
            simp only [ibn, ↓reduceIte]
          · rw [show f_X5_figure (upd MI 14 (nI (x + 1 + 1 + 1))) MA (nI (60 * j + i)) (nI n) 1 = _ from b2]
            simp only [ibn]
            rw [k4, if_neg (show ¬ (0 : Int32) ≤ -9 by decide)]
      · left
        refine ⟨x + 1 + 1, by omega, ?_, ?_⟩
        · rw [t_n (lo := 49) hin hs (by omega) a1]
          simp only [ibn, ↓reduceIte]
        · rw [show f_X5_figure (upd MI 14 (nI (x + 1 + 1))) MA (nI (60 * j + i)) (nI n) 1 = _ from a2]
          simp only [ibn, if_neg (show ¬ (0 : Int32) ≤ -9 by decide)]
          rw [k4, if_neg (show ¬ (0 : Int32) ≤ -9 by decide)]
    · left
      refine ⟨x + 1, by omega, ?_, ?_⟩
      · rw [k1, ibn, if_pos rfl]
      · rw [k3]
  · left
    refine ⟨x, hx, ?_, ?_⟩
    · rw [t_n hin hs (by omega) (by
        by_cases h1 : cdF ce i n x < 44
        · exact Or.inl h1
        · right
          intro h2
          apply q
          rw [Int32.lt_iff_toInt_lt] at h1
          rw [Int32.le_iff_toInt_le] at h2
          exact Int32.toInt_inj.mp (by omega))]
      simp only [ibn, ↓reduceIte]
    · rw [if_neg q, ← p1, uu_self]
end RE
