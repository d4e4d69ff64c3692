/-! COST: the class counts in parts of 10^8, the reference in parts of 10 to the way's length -/
def mtF (h c : Nat → Nat) : Nat → Nat → Nat → Nat → Nat
  | 0, _, _, a => a
  | d + 1, s, u, a => mtF h c d (s + 1) (u - u / 10 * h s) (a + u / 10 * h s * c s)
def mmF (h c : Nat → Nat) : Nat → Nat → Nat → Nat → Nat
  | 0, _, _, a => a
  | d + 1, s, u, a => mmF h c d (s + 1) (u * (10 - h s)) (a + u * h s * 10 ^ d * c s)
theorem mmF_acc (h c : Nat → Nat) : ∀ d s u a, mmF h c d s u a = a + mmF h c d s u 0 := by
  intro d
  induction d with
  | zero => intro s u a; simp [mmF]
  | succ d ih =>
    intro s u a
    simp only [mmF]
    rw [ih (s + 1) _ (a + _), ih (s + 1) _ (0 + _)]
    omega
theorem mt_mm {h c : Nat → Nat} {L : Nat} (hL : L ≤ 8) (hh : ∀ s, s < L → h s ≤ 9) : ∀ d s u a, s + d = L → mtF h c d s (u * 10 ^ (8 - s)) a = a + mmF h c d s u 0 * 10 ^ (8 - L) := by
  intro d
  induction d with
  | zero => intro s u a _; simp [mtF, mmF]
  | succ d ih =>
    intro s u a hs
    have h9 := hh s (by omega)
    have e1 : u * 10 ^ (8 - s) = u * 10 ^ (7 - s) * 10 := by
      rw [show 8 - s = (7 - s) + 1 by omega, Nat.pow_succ, Nat.mul_assoc]
    have e2 : u * 10 ^ (8 - s) / 10 = u * 10 ^ (7 - s) := by
      rw [e1]; exact Nat.mul_div_cancel _ (by decide)
    have e3 : u * 10 ^ (8 - s) - u * 10 ^ (7 - s) * h s = (u * (10 - h s)) * 10 ^ (8 - (s + 1)) := by
      rw [e1, ← Nat.mul_sub, show 8 - (s + 1) = 7 - s by omega, Nat.mul_assoc, Nat.mul_assoc, Nat.mul_comm (10 ^ (7 - s))]
    simp only [mtF, mmF]
    rw [e2, e3, ih (s + 1) _ _ (by omega), mmF_acc h c d (s + 1) _ (0 + _), Nat.add_mul, Nat.zero_add]
    have e4 : u * 10 ^ (7 - s) * h s * c s = u * h s * 10 ^ d * c s * 10 ^ (8 - L) := by
      rw [show 7 - s = d + (8 - L) by omega, Nat.pow_add]
      simp only [Nat.mul_comm, Nat.mul_left_comm, Nat.mul_assoc]
    rw [e4]
    omega
theorem mtF_le {h c : Nat → Nat} {L C : Nat} (hh : ∀ s, s < L → h s ≤ 9 ∧ c s ≤ C) : ∀ d s u a, s + d = L → u ≤ 100000000 → mtF h c d s u a ≤ a + d * (100000000 * C) := by
  intro d
  induction d with
  | zero => intro s u a _ _; simp [mtF]
  | succ d ih =>
    intro s u a hs hu
    have h9 := hh s (by omega)
    simp only [mtF]
    have h1 := ih (s + 1) (u - u / 10 * h s) (a + u / 10 * h s * c s) (by omega) (by omega)
    have h2 : u / 10 * h s ≤ 100000000 := by
      have : u / 10 * h s ≤ u / 10 * 9 := Nat.mul_le_mul_left _ h9.1
      omega
    have h3 : u / 10 * h s * c s ≤ 100000000 * C := Nat.mul_le_mul h2 h9.2
    rw [Nat.add_mul]
    omega
def wt (G : Nat → Nat → Nat) (k : Nat) : Nat := G 5 k * grN (G 4 k) (G 6 k)
def cF (G : Nat → Nat → Nat) (wy : Nat → Nat) (k s : Nat) : Nat := 2 * wt G k * G 1 (wy s)
def cstX (g : Nat → Nat) (G : Nat → Nat → Nat) (wy : Nat → Nat) (L : Nat) : Nat := sumN (fun s => dty g G (wy s) * 100000000) L 0 + sumN (fun k => mtF (fun s => hrd g G k (wy s)) (cF G wy k) L 0 100000000 0) (g 3) 0
def cstM (g : Nat → Nat) (G : Nat → Nat → Nat) (wy : Nat → Nat) (L : Nat) : Nat := sumN (fun s => dty g G (wy s) * 10 ^ L) L 0 + sumN (fun k => mmF (fun s => hrd g G k (wy s)) (cF G wy k) L 0 1 0) (g 3) 0
theorem sumN_congr {f f' : Nat → Nat} : ∀ d k, (∀ x, k ≤ x → x < k + d → f x = f' x) → sumN f d k = sumN f' d k := by
  intro d
  induction d with
  | zero => intro k _; rfl
  | succ d ih =>
    intro k h
    simp only [sumN]
    rw [h k (by omega) (by omega), ih (k + 1) (fun x a b => h x (by omega) (by omega))]
theorem cX_cM {g : Nat → Nat} {G : Nat → Nat → Nat} (w : WF g G) {wy : Nat → Nat} {L : Nat} (hL : L ≤ 8) (hw : ∀ s, s < L → wy s < g 0) : cstX g G wy L = cstM g G wy L * 10 ^ (8 - L) := by
  unfold cstX cstM
  have h8 : (100000000 : Nat) = 10 ^ L * 10 ^ (8 - L) := by
    rw [← Nat.pow_add, show L + (8 - L) = 8 by omega]
  rw [Nat.add_mul, ← sumN_mul, ← sumN_mul]
  congr 1
  · exact sumN_congr _ _ (fun x _ _ => by rw [Nat.mul_assoc, ← h8])
  · refine sumN_congr _ _ (fun k _ _ => ?_)
    have h := mt_mm (h := fun s => hrd g G k (wy s)) (c := cF G wy k) hL (fun s hs => hrd_le w k (hw s hs)) L 0 1 0 (by omega)
    simp only [Nat.one_mul, Nat.zero_add] at h
    exact h
theorem cX_le {g : Nat → Nat} {G : Nat → Nat → Nat} (w : WF g G) {wy : Nat → Nat} {L : Nat} (hL : L ≤ 8) (hw : ∀ s, s < L → wy s < g 0) : cstX g G wy L ≤ 30000000000000 := by
  unfold cstX
  have h1 := sumN_le (f := fun s => dty g G (wy s) * 100000000) (c := 1944000000000) L 0 (fun x _ hx => by
    have := dty_le w (hw x (by omega))
    show dty g G (wy x) * 100000000 ≤ _
    omega)
  have h2 := sumN_le (f := fun k => mtF (fun s => hrd g G k (wy s)) (cF G wy k) L 0 100000000 0) (c := 8 * (100000000 * 3240)) (g 3) 0 (fun k _ hk => by
    have ws := w.2.2.2.2.2.2.2.2.1 k (by omega)
    have hgr := grN_le (kd := G 4 k) ws.2.2.1
    have hwt : wt G k ≤ 180 := by
      unfold wt
      calc _ ≤ 9 * 20 := Nat.mul_le_mul ws.2.1 hgr
        _ = 180 := rfl
    have h := mtF_le (h := fun s => hrd g G k (wy s)) (c := cF G wy k) (L := L) (C := 3240) (fun s hs => ⟨hrd_le w k (hw s hs), by
      have wp := (w.2.2.2.2.2.2.2.1 (wy s) (hw s hs)).2.1
      unfold cF
      calc _ ≤ (2 * 180) * 9 := Nat.mul_le_mul (by omega) wp
        _ = 3240 := rfl⟩) L 0 100000000 0 (by omega) (by omega)
    have : L * (100000000 * 3240) ≤ 8 * (100000000 * 3240) := Nat.mul_le_mul_right _ hL
    show mtF _ _ L 0 100000000 0 ≤ _
    omega)
  have w3 := w.2.1
  have h3 : L * 1944000000000 ≤ 8 * 1944000000000 := Nat.mul_le_mul_right _ hL
  have h4 : g 3 * (8 * (100000000 * 3240)) ≤ 4 * (8 * (100000000 * 3240)) := Nat.mul_le_mul_right _ w3
  omega
section CX
variable {BI : Nat → Int32} {BA : Nat → Nat → Int32} {MI : Nat → Int32} {MA : Nat → Nat → Int32} {g : Nat → Nat} {G : Nat → Nat → Nat} {WS : Nat → Int32} {wy : Nat → Nat} {L : Nat}
theorem x_mt (V : VX BI BA g G) (w : WF g G) (hL : L ≤ 8) (hW : ∀ s, s < L → WS s = nI (wy s)) (hw : ∀ s, s < L → wy s < g 0) {k : Nat} (hk : k < g 3) (kk : Int64 → Int64 → Int32 → Option Int64) : ∀ d fuel s u a, s + d = L → d < fuel → u ≤ 100000000 → ∃ u', lp_X3_meanTaken_10 kk (nI L) WS BI BA (nI k) fuel (lN u) (lN a) (nI s) = kk (lN u') (lN (mtF (fun s => hrd g G k (wy s)) (cF G wy k) d s u a)) (nI L) := by
  have w0 := w.1
  intro d
  induction d with
  | zero =>
    intro fuel s u a hs hf hu
    obtain ⟨f, rfl⟩ : ∃ f, fuel = f + 1 := ⟨fuel - 1, by omega⟩
    refine ⟨u, ?_⟩
    unfold lp_X3_meanTaken_10
    rw [if_pos (by rw [s_le (by omega) (by omega)]; omega), show s = L by omega]
    rfl
  | succ d ih =>
    intro fuel s u a hs hf hu
    obtain ⟨f, rfl⟩ : ∃ f, fuel = f + 1 := ⟨fuel - 1, by omega⟩
    have hws := hw s (by omega)
    have hh := hrd_le w k hws
    have hle : u / 10 * hrd g G k (wy s) ≤ u := by
      have : u / 10 * hrd g G k (wy s) ≤ u / 10 * 9 := Nat.mul_le_mul_left _ hh
      omega
    obtain ⟨u', hI⟩ := ih f (s + 1) (u - u / 10 * hrd g G k (wy s)) (a + u / 10 * hrd g G k (wy s) * cF G wy k s) (by omega) (by omega) (by omega)
    refine ⟨u', ?_⟩
    unfold lp_X3_meanTaken_10
    rw [if_neg (by rw [s_le (by omega) (by omega)]; omega), s_cl (by omega), if_neg (gdc (by omega) (by decide)), if_neg (by decide), hW s (by omega), x_heard V w hk hws, ibind, x_weightOf V w hk, ibind, s_cl (by omega), if_neg (gdc (by omega) (by decide)), (V.2.2.2.2.2.2.2.1 (wy s) hws).1]
    have wr := (w.2.2.2.2.2.2.2.1 (wy s) hws).2.1
    have ws := w.2.2.2.2.2.2.2.2.1 k hk
    have hgr := grN_le (kd := G 4 k) ws.2.2.1
    have hwt : G 5 k * grN (G 4 k) (G 6 k) ≤ 180 := by
      calc _ ≤ 9 * 20 := Nat.mul_le_mul ws.2.1 hgr
        _ = 180 := rfl
    rw [nI_l (by omega), nI_l (by omega), nI_l (by omega), show (10 : Int64) = lN 10 from rfl, pk_lDiv (by omega) (by decide) (by decide), show (2 : Int64) = lN 2 from rfl, lN_mul, lN_mul, lN_mul, lN_mul, lN_add, lN_sub hle, nI_1]
    simp only [mtF]
    rw [← hI]
    congr 2
    unfold cF wt
    simp only [Nat.mul_assoc]
theorem x_mean (V : VX BI BA g G) (w : WF g G) (hL : L ≤ 8) (hW : ∀ s, s < L → WS s = nI (wy s)) (hw : ∀ s, s < L → wy s < g 0) {k : Nat} (hk : k < g 3) : f_X3_meanTaken (nI L) WS BI BA (nI k) = some (lN (mtF (fun s => hrd g G k (wy s)) (cF G wy k) L 0 100000000 0)) := by
  unfold f_X3_meanTaken
  obtain ⟨u', h⟩ := x_mt V w hL hW hw hk (fun el3_10 el5_10 el7_10 => some el5_10) L 1000 0 100000000 0 (by omega) (by omega) (by omega)
  exact h
theorem x_c2 (V : VX BI BA g G) (w : WF g G) (hL : L ≤ 8) (hW : ∀ s, s < L → WS s = nI (wy s)) (hw : ∀ s, s < L → wy s < g 0) (kk : Int64 → Int32 → Option Int64) : ∀ d fuel k a, k + d = g 3 → d < fuel → lp_X3_costIn_42 kk (nI L) WS BI BA fuel (lN a) (nI k) = kk (lN (a + sumN (fun k => mtF (fun s => hrd g G k (wy s)) (cF G wy k) L 0 100000000 0) d k)) (nI (g 3)) := by
  have w3 := w.2.1
  intro d
  induction d with
  | zero =>
    intro fuel k a hk hf
    obtain ⟨f, rfl⟩ : ∃ f, fuel = f + 1 := ⟨fuel - 1, by omega⟩
    unfold lp_X3_costIn_42
    rw [V.2.1, if_pos (by rw [s_le (by omega) (by omega)]; omega), show k = g 3 by omega]
    rfl
  | succ d ih =>
    intro fuel k a hk hf
    obtain ⟨f, rfl⟩ : ∃ f, fuel = f + 1 := ⟨fuel - 1, by omega⟩
    unfold lp_X3_costIn_42
    rw [V.2.1, if_neg (by rw [s_le (by omega) (by omega)]; omega), x_mean V w hL hW hw (by omega), ibind, lN_add, nI_1, ih f (k + 1) _ (by omega) (by omega)]
    simp only [sumN, Nat.add_assoc]
theorem x_c1 (V : VX BI BA g G) (w : WF g G) (hL : L ≤ 8) (hW : ∀ s, s < L → WS s = nI (wy s)) (hw : ∀ s, s < L → wy s < g 0) (kk : Int64 → Int32 → Option Int64) : ∀ d fuel s a, s + d = L → d < fuel → lp_X3_costIn_5 kk (nI L) WS BI BA fuel (lN a) (nI s) = kk (lN (a + sumN (fun s => dty g G (wy s) * 100000000) d s)) (nI L) := by
  intro d
  induction d with
  | zero =>
    intro fuel s a hk hf
    obtain ⟨f, rfl⟩ : ∃ f, fuel = f + 1 := ⟨fuel - 1, by omega⟩
    unfold lp_X3_costIn_5
    rw [if_pos (by rw [s_le (by omega) (by omega)]; omega), show s = L by omega]
    rfl
  | succ d ih =>
    intro fuel s a hk hf
    obtain ⟨f, rfl⟩ : ∃ f, fuel = f + 1 := ⟨fuel - 1, by omega⟩
    have hws := hw s (by omega)
    have hd := dty_le w hws
    unfold lp_X3_costIn_5
    rw [if_neg (by rw [s_le (by omega) (by omega)]; omega), s_cl (by omega), if_neg (gdc (by omega) (by decide)), hW s (by omega), x_dutyAt V w hws, ibind, nI_l (by omega), show (100000000 : Int64) = lN 100000000 from rfl, lN_mul, lN_add, nI_1, ih f (s + 1) _ (by omega) (by omega)]
    simp only [sumN, Nat.add_assoc]
theorem x_cost (V : VX BI BA g G) (w : WF g G) (hL : L ≤ 8) (hW : ∀ s, s < L → WS s = nI (wy s)) (hw : ∀ s, s < L → wy s < g 0) : f_X3_costIn (nI L) WS BI BA = some (lN (cstX g G wy L)) := by
  have w3 := w.2.1
  unfold f_X3_costIn
  refine (x_c1 V w hL hW hw _ L 1000 0 0 (by omega) (by omega)).trans ?_
  refine (x_c2 V w hL hW hw _ (g 3) 1000 0 _ (by omega) (by omega)).trans ?_
  rw [Nat.zero_add]
  rfl
theorem m_mm (V : VM MI MA g G) (w : WF g G) (hL : L ≤ 8) (hW : ∀ s, s < L → MA 23 s = nI (wy s)) (hw : ∀ s, s < L → wy s < g 0) {k : Nat} (hk : k < g 3) (kk : Int64 → Int64 → Int32 → Option Int64) : ∀ d fuel s u a, s + d = L → d < fuel → ∃ u', lp_X5_costNow_55 kk MI MA (nI L) (nI k) fuel (lN a) (lN u) (nI s) = kk (lN (mmF (fun s => hrd g G k (wy s)) (cF G wy k) d s u a)) (lN u') (nI L) := by
  have w0 := w.1
  have w3 := w.2.1
  intro d
  induction d with
  | zero =>
    intro fuel s u a hs hf
    obtain ⟨f, rfl⟩ : ∃ f, fuel = f + 1 := ⟨fuel - 1, by omega⟩
    refine ⟨u, ?_⟩
    unfold lp_X5_costNow_55
    rw [if_pos (by rw [s_le (by omega) (by omega)]; omega), show s = L by omega]
    rfl
  | succ d ih =>
    intro fuel s u a hs hf
    obtain ⟨f, rfl⟩ : ∃ f, fuel = f + 1 := ⟨fuel - 1, by omega⟩
    have hws := hw s (by omega)
    have hh := hrd_le w k hws
    obtain ⟨u', hI⟩ := ih f (s + 1) (u * (10 - hrd g G k (wy s))) (a + u * hrd g G k (wy s) * 10 ^ d * cF G wy k s) (by omega) (by omega)
    refine ⟨u', ?_⟩
    have hs_ := V.2.2.2.2.2.2.2.2.1 k hk
    have wr := (w.2.2.2.2.2.2.2.1 (wy s) hws).2.1
    have ws := w.2.2.2.2.2.2.2.2.1 k hk
    have hgr := grN_le (kd := G 4 k) ws.2.2.1
    have e0 : (nI L - nI s) - (1 : Int32) = nI d := by
      rw [pk_sub (by omega), li1, pk_sub (by omega), show L - s - 1 = d by omega]
    unfold lp_X5_costNow_55
    rw [if_neg (by rw [s_le (by omega) (by omega)]; omega), s_cl (by omega), if_neg (gdc (by omega) (by decide)), hW s (by omega), m_heard V w hk hws, ibind, e0, m_tens (by omega), ibind, s_cl (by omega), if_neg (gdc (by omega) (by decide)), m_gradeOf V w hk, ibind, s_cl (by omega), if_neg (gdc (by omega) (by decide)), ibind, (V.2.2.2.2.2.2.2.1 (wy s) hws).1, hs_.2.1]
    rw [nI_l (by omega), nI_l (by omega), nI_l (by omega), nI_l (by omega), show (10 : Int64) = lN 10 from rfl, show (2 : Int64) = lN 2 from rfl, lN_sub (by omega), lN_mul, lN_mul, lN_mul, lN_mul, lN_mul, lN_mul, lN_mul, lN_add, nI_1]
    simp only [mmF]
    rw [← hI]
    congr 2
    unfold cF wt
    simp only [Nat.mul_assoc]
theorem m_c2 (V : VM MI MA g G) (w : WF g G) (hL : L ≤ 8) (hW : ∀ s, s < L → MA 23 s = nI (wy s)) (hw : ∀ s, s < L → wy s < g 0) (kk : Int64 → Int32 → Option Int64) : ∀ d fuel k a, k + d = g 3 → d < fuel → lp_X5_costNow_40 kk MI MA (nI L) fuel (lN a) (nI k) = kk (lN (a + sumN (fun k => mmF (fun s => hrd g G k (wy s)) (cF G wy k) L 0 1 0) d k)) (nI (g 3)) := by
  have w3 := w.2.1
  intro d
  induction d with
  | zero =>
    intro fuel k a hk hf
    obtain ⟨f, rfl⟩ : ∃ f, fuel = f + 1 := ⟨fuel - 1, by omega⟩
    unfold lp_X5_costNow_40
    rw [V.2.1, if_pos (by rw [s_le (by omega) (by omega)]; omega), show k = g 3 by omega]
    rfl
  | succ d ih =>
    intro fuel k a hk hf
    obtain ⟨f, rfl⟩ : ∃ f, fuel = f + 1 := ⟨fuel - 1, by omega⟩
    unfold lp_X5_costNow_40
    obtain ⟨u', h⟩ := m_mm V w hL hW hw (k := k) (by omega) (fun el2_55 el5_55 el7_55 => lp_X5_costNow_40 kk MI MA (nI L) f el2_55 (nI k + (1 : Int32))) L 1000 0 1 a (by omega) (by omega)
    rw [V.2.1, if_neg (by rw [s_le (by omega) (by omega)]; omega)]
    refine h.trans ?_
    rw [nI_1, ih f (k + 1) _ (by omega) (by omega), mmF_acc]
    simp only [sumN, Nat.add_assoc]
theorem m_c1 (V : VM MI MA g G) (w : WF g G) (hL : L ≤ 8) (hW : ∀ s, s < L → MA 23 s = nI (wy s)) (hw : ∀ s, s < L → wy s < g 0) (kk : Int64 → Int32 → Option Int64) : ∀ d fuel s a, s + d = L → d < fuel → lp_X5_costNow_5 kk MI MA (nI L) fuel (lN a) (nI s) = kk (lN (a + sumN (fun s => dty g G (wy s) * 10 ^ L) d s)) (nI L) := by
  intro d
  induction d with
  | zero =>
    intro fuel s a hk hf
    obtain ⟨f, rfl⟩ : ∃ f, fuel = f + 1 := ⟨fuel - 1, by omega⟩
    unfold lp_X5_costNow_5
    rw [if_pos (by rw [s_le (by omega) (by omega)]; omega), show s = L by omega]
    rfl
  | succ d ih =>
    intro fuel s a hk hf
    obtain ⟨f, rfl⟩ : ∃ f, fuel = f + 1 := ⟨fuel - 1, by omega⟩
    have hws := hw s (by omega)
    have hd := dty_le w hws
    unfold lp_X5_costNow_5
    rw [if_neg (by rw [s_le (by omega) (by omega)]; omega), s_cl (by omega), if_neg (gdc (by omega) (by decide)), hW s (by omega), m_dutyAt V w hws, ibind, m_tens (by omega), ibind, nI_l (by omega), lN_mul, lN_add, nI_1, ih f (s + 1) _ (by omega) (by omega)]
    simp only [sumN, Nat.add_assoc]
theorem m_cost (V : VM MI MA g G) (w : WF g G) (hL : L ≤ 8) (hW : ∀ s, s < L → MA 23 s = nI (wy s)) (hw : ∀ s, s < L → wy s < g 0) : f_X5_costNow MI MA (nI L) = some (lN (cstM g G wy L)) := by
  have w3 := w.2.1
  unfold f_X5_costNow
  refine (m_c1 V w hL hW hw _ L 1000 0 0 (by omega) (by omega)).trans ?_
  refine (m_c2 V w hL hW hw _ (g 3) 1000 0 _ (by omega) (by omega)).trans ?_
  rw [Nat.zero_add]
  rfl
end CX
