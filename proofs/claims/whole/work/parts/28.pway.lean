/-! SHEETS and ways -/
def RS (LN SZ : Nat → Int32) (CE MA : Nat → Nat → Int32) : Prop := ∀ j, j < 4 → (LN j = -1 ∧ SZ j = 0 ∧ MA 29 j = -1) ∨ ∃ l s, l ≤ 2 ∧ s ≤ 60 ∧ LN j = nI l ∧ SZ j = nI s ∧ MA 29 j = nI s ∧ MA 30 j = nI l ∧ ∀ i, i < s → CE j i = MA 31 (60 * j + i)
def RBx (BI : Nat → Int32) (BA : Nat → Nat → Int32) (MI : Nat → Int32) (MA : Nat → Nat → Int32) (g : Nat → Nat) (G : Nat → Nat → Nat) : Prop := VX BI BA g G ∧ VM MI MA g G ∧ WF g G ∧ (g 0 = 0 ↔ g 3 = 0) ∧ g 12 = 99 ∧ g 9 < 2 ^ g 3
theorem VM_0 {MI : Nat → Int32} {MA : Nat → Nat → Int32} {g : Nat → Nat} {G : Nat → Nat → Nat} (V : VM MI MA g G) (v : Int32) : VM (upd MI 0 v) MA g G := by
  simpa [VM, upd] using V
theorem VM_33 {MI : Nat → Int32} {MA : Nat → Nat → Int32} {g : Nat → Nat} {G : Nat → Nat → Nat} (V : VM MI MA g G) (v : Int32) : VM (upd MI 33 v) MA g G := by
  simpa [VM, upd] using V
theorem VM_o {MI : Nat → Int32} {MA : Nat → Nat → Int32} {g : Nat → Nat} {G : Nat → Nat → Nat} (V : VM MI MA g G) {r : Nat} (hr : r = 23 ∨ r = 29 ∨ r = 30 ∨ r = 31 ∨ r = 32 ∨ r = 24 ∨ r = 25) (z : Nat → Int32) : VM MI (va_up MA r z) g G := by
  rcases hr with rfl | rfl | rfl | rfl | rfl | rfl | rfl <;> simpa [VM, va_up] using V
theorem RS_o {LN SZ : Nat → Int32} {CE MA : Nat → Nat → Int32} (h : RS LN SZ CE MA) {r : Nat} (h1 : r ≠ 29) (h2 : r ≠ 30) (h3 : r ≠ 31) (z : Nat → Int32) : RS LN SZ CE (va_up MA r z) := by
  intro j hj
  rw [vv_n _ _ (Ne.symm h1), vv_n _ _ (Ne.symm h2), vv_n _ _ (Ne.symm h3)]
  exact h j hj
theorem add_l (a b : Int32) : (a.toInt64 + b.toInt64).toInt = a.toInt + b.toInt := by
  have ha := a.toInt_lt
  have ha2 := a.le_toInt
  have hb := b.toInt_lt
  have hb2 := b.le_toInt
  rw [Int64.toInt_add, Int32.toInt_toInt64, Int32.toInt_toInt64]
  apply Int.bmod_eq_of_le <;> omega
theorem ibn {α β : Type} (a : α) (f : α → Option β) : Option.bind (some a) f = f a := by
  simp only [Option.bind_some]
section WY
variable {BI : Nat → Int32} {BA : Nat → Nat → Int32} {MI : Nat → Int32} {MA : Nat → Nat → Int32} {g : Nat → Nat} {G : Nat → Nat → Nat} {LN SZ : Nat → Int32} {CE : Nat → Nat → Int32}
theorem x_hasCells {s : Nat} (hs : s ≤ 60) (a b : Int32) : f_X1_hasCells (nI s) a b = some (if 0 ≤ a.toInt ∧ 0 ≤ b.toInt ∧ a.toInt + b.toInt ≤ s then 1 else 0) := by
  unfold f_X1_hasCells
  by_cases h1 : a < 0
  · rw [if_pos h1]
    rw [Int32.lt_iff_toInt_lt, show (0 : Int32).toInt = 0 by decide] at h1
    rw [if_neg (by omega)]
  · rw [if_neg h1]
    obtain ⟨i, hi, rfl⟩ := nI_of h1
    have ei := nI_toInt (n := i) hi
    by_cases h2 : s < i
    · rw [if_pos ((s_lt (by omega) hi).mpr h2)]
      by_cases h3 : 0 ≤ b.toInt
      · rw [if_neg (by omega)]
      · rw [if_neg (by omega)]
    · rw [if_neg (fun q => h2 ((s_lt (by omega) hi).mp q)), pk_sub (by omega)]
      by_cases h3 : b < 0
      · rw [if_pos h3]
        rw [Int32.lt_iff_toInt_lt, show (0 : Int32).toInt = 0 by decide] at h3
        rw [if_neg (by omega)]
      · rw [if_neg h3]
        obtain ⟨n, hn, rfl⟩ := nI_of h3
        have en := nI_toInt (n := n) hn
        by_cases h4 : s - i < n
        · rw [if_pos ((s_lt (by omega) hn).mpr h4), if_neg (by omega)]
        · rw [if_neg (fun q => h4 ((s_lt (by omega) hn).mp q)), if_pos (by omega)]
theorem m_isBeyond {s : Nat} (hs : s ≤ 60) (a b : Int32) : f_X5_isBeyond a b.toInt64 (nI s) = some (if 0 ≤ a.toInt ∧ 0 ≤ b.toInt ∧ a.toInt + b.toInt ≤ s then 0 else 1) := by
  unfold f_X5_isBeyond
  simp only [lg_cmp_lt, lg_cmp_le]
  simp only [Int32.lt_iff_toInt_lt, Int64.lt_iff_toInt_lt, Int64.le_iff_toInt_le, add_l, Int32.toInt_toInt64, nI_toInt (show s < 2 ^ 31 by omega), show (0 : Int32).toInt = 0 by decide, show (0 : Int64).toInt = 0 by decide]
  by_cases h1 : a.toInt < 0
  · rw [if_pos h1, if_neg (by omega)]
  · rw [if_neg h1]
    by_cases h2 : b.toInt < 0
    · rw [if_pos h2, if_neg (by omega)]
    · rw [if_neg h2]
      by_cases h3 : a.toInt + b.toInt ≤ (s : Int)
      · rw [if_pos h3, if_pos (by omega)]
      · rw [if_neg h3, if_neg (by omega)]
/-- cells of a sheet: barred alike -/
theorem cbar (hS : RS LN SZ CE MA) {j : Nat} (hj : j < 4) (a2 a3 a4 : Int32) :
    (f_X1_faultAs (LN j) a2 = some 1 ∧ f_X5_cellsBarred MI MA (nI j) a2 a3 a4.toInt64 = some (-11, upd MI 0 1)) ∨
    (f_X1_faultAs (LN j) a2 = some 2 ∧ f_X5_cellsBarred MI MA (nI j) a2 a3 a4.toInt64 = some (-12, upd MI 0 2)) ∨
    (f_X1_faultAs (LN j) a2 = some 0 ∧ a4 < 0 ∧ f_X5_cellsBarred MI MA (nI j) a2 a3 a4.toInt64 = some (-14, upd MI 0 4)) ∨
    (f_X1_faultAs (LN j) a2 = some 0 ∧ ¬ a4 < 0 ∧ f_X1_hasCells (SZ j) a3 a4 = some 0 ∧ f_X5_cellsBarred MI MA (nI j) a2 a3 a4.toInt64 = some (-13, upd MI 0 3)) ∨
    (f_X1_faultAs (LN j) a2 = some 0 ∧ f_X1_hasCells (SZ j) a3 a4 = some 1 ∧ f_X5_cellsBarred MI MA (nI j) a2 a3 a4.toInt64 = some (0, MI) ∧ ∃ i n s, a3 = nI i ∧ a4 = nI n ∧ i + n ≤ s ∧ s ≤ 60 ∧ SZ j = nI s ∧ ∀ x, x < s → CE j x = MA 31 (60 * j + x)) := by
  have hg : ¬ (nI j < 0 ∨ 4 ≤ j) := gdc hj (by decide)
  have hcl : (nI j).toNatClampNeg = j := s_cl (by omega)
  unfold f_X1_faultAs f_X1_hasRow f_X5_cellsBarred jb_X5_cellsBarred_25 f_X5_failed
  rw [hcl]
  simp only [if_neg hg]
  rcases hS j hj with ⟨e1, e2, e3⟩ | ⟨l, s, hl, hs, e1, e2, e3, e4, hc⟩
  · left
    rw [e1, e3]
    exact ⟨rfl, rfl⟩
  · right
    rw [e1, e3, e4, if_neg (fun q => (s_m1 (by omega)).mp q), ibind, if_neg (by decide), if_neg (nI_pos (by omega)), if_pos (nI_pos' (by omega)), m_isBeyond hs, ibind, e2, x_hasCells hs]
    by_cases q1 : nI l = a2
    · right
      rw [if_pos q1, if_pos q1]
      have h4 : (0 ≤ lg_cmp a4.toInt64 0) ↔ 0 ≤ a4.toInt := by
        rw [lg_cmp_ge, Int64.le_iff_toInt_le, Int32.toInt_toInt64, show (0 : Int64).toInt = 0 by decide]
      have h5 : (a4 < 0) ↔ a4.toInt < 0 := by
        rw [Int32.lt_iff_toInt_lt, show (0 : Int32).toInt = 0 by decide]
      by_cases q2 : a4.toInt < 0
      · left
        rw [if_neg (fun h => by have := h4.mp h; omega)]
        exact ⟨rfl, h5.mpr q2, rfl⟩
      · right
        rw [if_pos (h4.mpr (by omega))]
        by_cases q3 : 0 ≤ a3.toInt ∧ 0 ≤ a4.toInt ∧ a3.toInt + a4.toInt ≤ s
        · right
          rw [if_pos q3, if_pos q3]
          obtain ⟨i, hi, ei⟩ := toI_ex (a := a3) (N := 61) q3.1 (by omega)
          obtain ⟨n, hn, en⟩ := toI_ex (a := a4) (N := 61) q3.2.1 (by omega)
          refine ⟨rfl, rfl, rfl, i, n, s, ei, en, ?_, hs, rfl, hc⟩
          rw [ei, en, nI_toInt (by omega), nI_toInt (by omega)] at q3
          omega
        · left
          rw [if_neg q3, if_neg q3]
          exact ⟨rfl, fun h => q2 (h5.mp h), rfl, rfl⟩
    · left
      rw [if_neg q1, if_neg q1]
      exact ⟨rfl, rfl⟩
theorem x_tw (V : VX BI BA g G) (VM_ : VM MI MA g G) (w : WF g G) {j i n s : Nat} (hj : j < 4) (hin : i + n ≤ s) (hs : s ≤ 60) (hn : n ≤ 8) (hc : ∀ x, x < s → CE j x = MA 31 (60 * j + x)) (kx : Int32 → Int32 → (Nat → Int32) → Option (Int32 × (Int32) × (Int32) × (Nat → Int32))) (km : Int32 → (Nat → Nat → Int32) → Option (Int32 × (Nat → Int32) × (Nat → Nat → Int32))) (r7 : Int32 × (Nat → Int32)) (h7 : r7.2 = MI) : ∀ d fuel fuel' x (WS z : Nat → Int32) (wy : Nat → Nat), x + d = n → d < fuel → d < fuel' → (∀ s, s < x → WS s = nI (wy s) ∧ z s = nI (wy s) ∧ wy s < g 0) →
    (∃ (WS' z' : Nat → Int32) (wy' : Nat → Nat), (∀ s, s < n → WS' s = nI (wy' s) ∧ z' s = nI (wy' s) ∧ wy' s < g 0) ∧ lp_X4_takeWay_120 kx BI CE (nI j) (nI i) (nI n) fuel (nI (i + x)) (nI x) WS = kx (nI (i + n)) (nI n) WS' ∧ lp_X5_wayBarred_23 km (nI j) (nI i) (nI n) r7 fuel' (nI x) (va_up MA 23 z) = km (nI n) (va_up MA 23 z')) ∨
    (∃ (wl' : Int32) (WS' z' : Nat → Int32), lp_X4_takeWay_120 kx BI CE (nI j) (nI i) (nI n) fuel (nI (i + x)) (nI x) WS = some (-1, 0, wl', WS') ∧ lp_X5_wayBarred_23 km (nI j) (nI i) (nI n) r7 fuel' (nI x) (va_up MA 23 z) = some (-1, upd MI 0 0, va_up MA 23 z')) := by
  intro d
  induction d with
  | zero =>
    intro fuel fuel' x WS z wy hx hf hf' hw
    obtain ⟨f, rfl⟩ : ∃ f, fuel = f + 1 := ⟨fuel - 1, by omega⟩
    obtain ⟨f', rfl⟩ : ∃ f, fuel' = f + 1 := ⟨fuel' - 1, by omega⟩
    left
    have e : x = n := by omega
    subst e
    refine ⟨WS, z, wy, hw, ?_, ?_⟩
    · unfold lp_X4_takeWay_120
      rw [s_add, if_pos ((s_le (by omega) (by omega)).mpr (Nat.le_refl _))]
    · unfold lp_X5_wayBarred_23
      rw [if_pos ((s_le (by omega) (by omega)).mpr (Nat.le_refl _))]
  | succ d ih =>
    intro fuel fuel' x WS z wy hx hf hf' hw
    obtain ⟨f, rfl⟩ : ∃ f, fuel = f + 1 := ⟨fuel - 1, by omega⟩
    obtain ⟨f', rfl⟩ : ∃ f, fuel' = f + 1 := ⟨fuel' - 1, by omega⟩
    unfold lp_X4_takeWay_120 lp_X5_wayBarred_23
    have ea : ((60 : Int32) * nI j + nI i) + nI x = nI (60 * j + (i + x)) := by
      rw [li60, s_mul, s_add, s_add, Nat.add_assoc]
    have q1 : ¬ nI (i + n) ≤ nI (i + x) := fun q => by have := (s_le (by omega) (by omega)).mp q; omega
    have q2 : ¬ nI n ≤ nI x := fun q => by have := (s_le (by omega) (by omega)).mp q; omega
    rw [ea, s_add, if_neg q1, if_neg q2, s_cl (show i + x < 2147483648 by omega), s_cl (show j < 2147483648 by omega), s_cl (show x < 2147483648 by omega), s_cl (show 60 * j + (i + x) < 2147483648 by omega), if_neg (gdc (show i + x < 60 by omega) (by decide)), if_neg (gdc (show 60 * j + (i + x) < 240 by omega) (by decide)), if_neg (gdc (show x < 8 by omega) (by decide)), if_neg (gdc (show x < 8 by omega) (by decide)), vv_s, vv_v, vv_s, uu_s, vv_n _ _ (show (31 : Nat) ≠ 23 by decide), ← hc (i + x) (by omega), h7]
    rcases px V VM_ w (CE j (i + x)) with ⟨p, hp, ep, e1, e2⟩ | ⟨e1, e2⟩
    · rw [e1, e2, ibind, ibind, if_neg i10, if_pos rfl, if_neg (gdc (show i + x < 60 by omega) (by decide))]
      have hgo : f_X3_goOn (nI x) WS (CE j (i + x)) = some (nI (x + 1), upd WS x (CE j (i + x))) := by
        unfold f_X3_goOn
        rw [if_neg (fun q => by have := (s_le (a := 8) (by omega) (by omega)).mp q; omega), s_cl (show x < 2147483648 by omega), if_neg (gdc (show x < 8 by omega) (by decide)), nI_1]
      rw [hgo, ibind, nI_1, nI_1]
      refine ih f f' (x + 1) (upd WS x (CE j (i + x))) (upd z x (CE j (i + x))) (va_up wy x p) (by omega) (by omega) (by omega) (fun t ht => ?_)
      by_cases et : t = x
      · subst et
        rw [uu_s, uu_s, vv_s]
        exact ⟨ep, ep, hp⟩
      · rw [uu_n _ _ et, uu_n _ _ et, vv_n _ _ et]
        exact hw t (by omega)
    · right
      rw [e1, e2, ibind, ibind, if_pos rfl, if_neg i10]
      exact ⟨_, _, _, rfl, rfl⟩
theorem x_tw0 (V : VX BI BA g G) (VM_ : VM MI MA g G) (w : WF g G) {j i n s : Nat} (hj : j < 4) (hin : i + n ≤ s) (hs : s ≤ 60) (hn : n ≤ 8) (hc : ∀ x, x < s → CE j x = MA 31 (60 * j + x)) (fu : Nat) (hf : 8 < fu) (WS : Nat → Int32) :
    (∃ (WS' z' : Nat → Int32) (wy' : Nat → Nat), (∀ s, s < n → WS' s = nI (wy' s) ∧ z' s = nI (wy' s) ∧ wy' s < g 0) ∧ lp_X4_takeWay_120 (fun el8_120 ewl_120 eWS_120 => some ((0 : Int32), (0 : Int32), ewl_120, eWS_120)) BI CE (nI j) (nI i) (nI n) fu (nI i) 0 WS = some (0, 0, nI n, WS') ∧ lp_X5_wayBarred_23 (fun el6_23 eMA_23 => Option.bind (f_X5_refused MI (0 : Int32)) fun r79 => some (r79.1, r79.2, eMA_23)) (nI j) (nI i) (nI n) ((0 : Int32), MI) fu 0 MA = some (0, upd MI 0 0, va_up MA 23 z')) ∨
    (∃ (wl' : Int32) (WS' z' : Nat → Int32), lp_X4_takeWay_120 (fun el8_120 ewl_120 eWS_120 => some ((0 : Int32), (0 : Int32), ewl_120, eWS_120)) BI CE (nI j) (nI i) (nI n) fu (nI i) 0 WS = some (-1, 0, wl', WS') ∧ lp_X5_wayBarred_23 (fun el6_23 eMA_23 => Option.bind (f_X5_refused MI (0 : Int32)) fun r79 => some (r79.1, r79.2, eMA_23)) (nI j) (nI i) (nI n) ((0 : Int32), MI) fu 0 MA = some (-1, upd MI 0 0, va_up MA 23 z')) := by
  have hself : va_up MA 23 (MA 23) = MA := vv_self MA 23
  rcases x_tw V VM_ w hj hin hs hn hc (fun el8_120 ewl_120 eWS_120 => some ((0 : Int32), (0 : Int32), ewl_120, eWS_120)) (fun el6_23 eMA_23 => Option.bind (f_X5_refused MI (0 : Int32)) fun r79 => some (r79.1, r79.2, eMA_23)) ((0 : Int32), MI) rfl n fu fu 0 WS (MA 23) (fun _ => 0) (by omega) (by omega) (by omega) (fun s hs => absurd hs (Nat.not_lt_zero s)) with ⟨WS', z', wy, hwy, t1, t2⟩ | ⟨wl', WS', z', t1, t2⟩
  · left
    rw [hself, show nI 0 = (0 : Int32) from rfl] at t2
    rw [Nat.add_zero, show nI 0 = (0 : Int32) from rfl] at t1
    exact ⟨WS', z', wy, hwy, t1, t2⟩
  · right
    rw [hself, show nI 0 = (0 : Int32) from rfl] at t2
    rw [Nat.add_zero, show nI 0 = (0 : Int32) from rfl] at t1
    exact ⟨wl', WS', z', t1, t2⟩
/-- the class's takeWay and the reference's wayBarred -/
theorem TW {wl : Int32} {WS : Nat → Int32} (R : RBx BI BA MI MA g G) (hS : RS LN SZ CE MA) (a1 a2 a3 a4 : Int32) :
    (∃ c, (c = -1 ∨ c = -2 ∨ c = -3) ∧ f_X4_takeWay wl WS BI LN SZ CE a1 a2 a3 a4 = some (c, 0, wl, WS) ∧ ((f_X5_noSheet a1 = some 1 ∧ c = -1) ∨ (f_X5_noSheet a1 = some 0 ∧ f_X5_in a2.toInt64 0 2 = some 0 ∧ c = -2) ∨ (f_X5_noSheet a1 = some 0 ∧ f_X5_in a2.toInt64 0 2 = some 1 ∧ f_X5_in a4.toInt64 0 8 = some 0 ∧ c = -2) ∨ (f_X5_noSheet a1 = some 0 ∧ f_X5_in a2.toInt64 0 2 = some 1 ∧ f_X5_in a4.toInt64 0 8 = some 1 ∧ MI 4 = 0 ∧ c = -3))) ∨
    ((f_X5_noSheet a1 = some 0 ∧ f_X5_in a2.toInt64 0 2 = some 1 ∧ f_X5_in a4.toInt64 0 8 = some 1 ∧ ¬ MI 4 = 0) ∧
      ((∃ c f, c < 0 ∧ f_X4_takeWay wl WS BI LN SZ CE a1 a2 a3 a4 = some (c, f, wl, WS) ∧ f_X5_wayBarred MI MA a1 a2 a3 a4 = some (c, upd MI 0 f, MA)) ∨
       (∃ (wl' : Int32) (WS' z' : Nat → Int32), f_X4_takeWay wl WS BI LN SZ CE a1 a2 a3 a4 = some (-1, 0, wl', WS') ∧ f_X5_wayBarred MI MA a1 a2 a3 a4 = some (-1, upd MI 0 0, va_up MA 23 z')) ∨
       (∃ (L : Nat) (WS' z' : Nat → Int32) (wy : Nat → Nat), L ≤ 8 ∧ a4 = nI L ∧ (∀ s, s < L → WS' s = nI (wy s) ∧ z' s = nI (wy s) ∧ wy s < g 0) ∧ f_X4_takeWay wl WS BI LN SZ CE a1 a2 a3 a4 = some (0, 0, nI L, WS') ∧ f_X5_wayBarred MI MA a1 a2 a3 a4 = some (0, upd MI 0 0, va_up MA 23 z')))) := by
  obtain ⟨vx, vm, w, h03, h12, h9⟩ := R
  have w0 := w.1
  have w3 := w.2.1
  have hmi : f_X0_isMissing BI = some (if g 0 = 0 then 1 else 0) := by
    unfold f_X0_isMissing
    rw [vx.1]
    simp only [s_eq0 (show g 0 < 2147483648 by omega)]
    split <;> rfl
  have hm4 : MI 4 = 0 ↔ g 3 = 0 := by rw [vm.2.1, s_eq0 (by omega)]
  unfold f_X4_takeWay f_X4_refusalOfRow
  rcases hx a1 with ⟨j, hj, rfl, e1, e2⟩ | ⟨e1, e2⟩
  · rcases wi a2 (N := 2) (by decide) with ⟨l, hl, rfl, e3, e4⟩ | ⟨e3, e4⟩
    · rw [e1, li2, e3, show (2 : Int64) = lN 2 from rfl, e4, li8, show (8 : Int64) = lN 8 from rfl, e2]
      rcases wi a4 (N := 8) (by decide) with ⟨L, hL, rfl, e5, e6⟩ | ⟨e5, e6⟩
      · rw [e5, e6]
        simp only [ibn, ↓reduceIte, i10]
        unfold jb_X4_takeWay_27
        rw [hmi]
        by_cases q : g 0 = 0
        · left
          have q3 := h03.mp q
          refine ⟨-3, Or.inr (Or.inr rfl), ?_, Or.inr (Or.inr (Or.inr ⟨(by first | trivial | rfl), (by first | trivial | rfl), (by first | trivial | rfl), hm4.mpr q3, rfl⟩))⟩
          rw [if_pos q]
          rfl
        · right
          have q3 : ¬ g 3 = 0 := fun z => q (h03.mpr z)
          refine ⟨⟨(by first | trivial | rfl), (by first | trivial | rfl), (by first | trivial | rfl), fun z => q3 (hm4.mp z)⟩, ?_⟩
          rw [if_neg q]
          simp only [ibn, ↓reduceIte]
          unfold jb_X4_takeWay_46 f_X5_wayBarred jb_X4_takeWay_93 f_X4_faulted
          generalize hfu : 1000 = fu
          rw [s_cl (show j < 2147483648 by omega)]
          simp only [↓reduceIte, if_neg (gdc hj (by decide))]
          rcases cbar (MI := MI) hS hj (nI l) a3 (nI L) with ⟨c1, c2⟩ | ⟨c1, c2⟩ | ⟨c1, c3, c2⟩ | ⟨c1, c3, c4, c2⟩ | ⟨c1, c4, c2, i, n, s, ei, en, hin, hs, es, hcs⟩
          · left
            rw [c1, c2]
            exact ⟨-11, 1, by decide, rfl, rfl⟩
          · left
            rw [c1, c2]
            exact ⟨-12, 2, by decide, rfl, rfl⟩
          · exact absurd c3 (nI_pos (by omega))
          · left
            rw [c1, c2, ibn, if_pos rfl, c4]
            exact ⟨-13, 3, by decide, rfl, rfl⟩
          · right
            have enL : n = L := by
              rw [s_eq (by omega) (by omega)] at en
              exact en.symm
            subst enL
            subst ei
            rw [c1, c2]
            simp only [ibn, ↓reduceIte]
            rw [c4]
            simp only [ibn, ↓reduceIte, i10]
            rw [if_pos (by decide)]
            have hbg : f_X3_begin = some 0 := rfl
            rw [hbg, ibn]
            rcases x_tw0 vx vm w hj hin hs hL hcs fu (by omega) WS with ⟨WS', z', wy, hwy, t1, t2⟩ | ⟨wl', WS', z', t1, t2⟩
            · right
              refine ⟨n, WS', z', wy, hL, rfl, hwy, ?_, ?_⟩
              · rw [t1]
              · rw [t2]
            · left
              refine ⟨wl', WS', z', ?_, ?_⟩
              · rw [t1]
              · rw [t2]
      · left
        rw [e5, e6]
        refine ⟨-2, Or.inr (Or.inl rfl), ?_, Or.inr (Or.inr (Or.inl ⟨rfl, rfl, rfl, rfl⟩))⟩
        rfl
    · left
      rw [e1, li2, e3, show (2 : Int64) = lN 2 from rfl, e4, e2]
      refine ⟨-2, Or.inr (Or.inl rfl), ?_, Or.inr (Or.inl ⟨rfl, rfl, rfl⟩)⟩
      rfl
  · left
    rw [e1, e2]
    exact ⟨-1, Or.inl rfl, rfl, Or.inl ⟨rfl, rfl⟩⟩
end WY
