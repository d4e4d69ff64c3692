/-! cost, say, road, worth -/
def RLw (tr fa : Int32) (BI : Nat → Int32) (BA : Nat → Nat → Int32) (LN SZ : Nat → Int32) (CE : Nat → Nat → Int32) (MI : Nat → Int32) (MA : Nat → Nat → Int32) : Prop := ∃ g G, RBx BI BA MI MA g G ∧ RS LN SZ CE MA ∧ MI 33 = tr ∧ MI 0 = fa
theorem nle {c : Int32} (h : c < 0) : ¬ 0 ≤ c := by
  rw [Int32.lt_iff_toInt_lt] at h
  rw [Int32.le_iff_toInt_le]
  omega
theorem l_le {a b : Nat} (ha : a < 9223372036854775808) (hb : b < 9223372036854775808) : lN a ≤ lN b ↔ a ≤ b := by
  rw [Int64.le_iff_toInt_le]
  show (Int64.ofNat a).toInt ≤ (Int64.ofNat b).toInt ↔ a ≤ b
  rw [lg_ofNat_toInt (by omega), lg_ofNat_toInt (by omega)]
  omega
section CS
variable {BI : Nat → Int32} {BA : Nat → Nat → Int32} {MI : Nat → Int32} {MA : Nat → Nat → Int32} {g : Nat → Nat} {G : Nat → Nat → Nat} {LN SZ : Nat → Int32} {CE : Nat → Nat → Int32} {tr fa : Int32}
theorem RB_f (R : RBx BI BA MI MA g G) (f : Int32) : RBx BI BA (upd MI 0 f) MA g G := ⟨R.1, VM_0 R.2.1 f, R.2.2⟩
theorem RB_z (R : RBx BI BA MI MA g G) (z : Nat → Int32) : RBx BI BA MI (va_up MA 23 z) g G := ⟨R.1, VM_o R.2.1 (Or.inl rfl) z, R.2.2⟩
theorem RL_f (R : RBx BI BA MI MA g G) (S : RS LN SZ CE MA) (t : MI 33 = tr) (f : Int32) : RLw tr f BI BA LN SZ CE (upd MI 0 f) MA :=
  ⟨g, G, RB_f R f, S, by rw [uu_n _ _ (by decide), t], uu_s _ _ _⟩
theorem RL_fz (R : RBx BI BA MI MA g G) (S : RS LN SZ CE MA) (t : MI 33 = tr) (f : Int32) (z : Nat → Int32) : RLw tr f BI BA LN SZ CE (upd MI 0 f) (va_up MA 23 z) :=
  RL_f (RB_z R z) (RS_o S (by decide) (by decide) (by decide) z) t f
theorem m_c0 (a1 a2 a3 a4 a5 : Int32) (h : f_X5_in a5.toInt64 0 (lN 1) = some 0) : f_X5_cost MI MA a1 a2 a3 a4 a5 = some (-9223372036854775808, upd MI 0 0, MA) := by
  unfold f_X5_cost f_X5_refusedLong f_X5_lost
  rw [show (2 : Int64) = lN 2 from rfl, show (8 : Int64) = lN 8 from rfl, show (1 : Int64) = lN 1 from rfl, h]
  rcases hx a1 with ⟨j, hj, rfl, e1, e2⟩ | ⟨e1, e2⟩ <;> rw [e2]
  · rcases wi a2 (N := 2) (by decide) with ⟨l, hl, rfl, e3, e4⟩ | ⟨e3, e4⟩ <;> rw [e4]
    · rcases wi a4 (N := 8) (by decide) with ⟨L, hL, rfl, e5, e6⟩ | ⟨e5, e6⟩ <;> rw [e6]
      · simp only [ibn, ↓reduceIte, i10]
      · simp only [ibn, ↓reduceIte, i10]
    · simp only [ibn, ↓reduceIte, i10]
  · simp only [ibn, ↓reduceIte, i10]
theorem p10_8 : (10 : Nat) ^ 8 = 100000000 := by decide
theorem p10_le {L : Nat} (hL : L ≤ 8) : 10 ^ L ≤ 100000000 := by
  have h := Nat.pow_le_pow_right (n := 10) (by decide) hL
  rw [p10_8] at h
  exact h
theorem scl {cx cm L : Nat} (hL : L ≤ 8) (h : cx = cm * 10 ^ (8 - L)) (wh : Int32) : (if wh = 0 then cx else 100000000) / Nat.gcd cx 100000000 = (if wh = 0 then cm else 10 ^ L) / Nat.gcd cm (10 ^ L) := by
  have e8 : 100000000 = 10 ^ L * 10 ^ (8 - L) := by
    rw [← Nat.pow_add, show L + (8 - L) = 8 by omega, p10_8]
  have hp : 0 < 10 ^ (8 - L) := Nat.pow_pos (by decide)
  rw [h, e8, Nat.gcd_mul_right]
  by_cases q : wh = 0
  · rw [if_pos q, if_pos q, Nat.mul_div_mul_right _ _ hp]
  · rw [if_neg q, if_neg q, Nat.mul_div_mul_right _ _ hp]
theorem cM_le {wy : Nat → Nat} (w : WF g G) {L : Nat} (hL : L ≤ 8) (hw : ∀ s, s < L → wy s < g 0) : cstM g G wy L ≤ 30000000000000 := by
  have h1 := cX_le w hL hw
  rw [cX_cM w hL hw] at h1
  exact Nat.le_trans (Nat.le_mul_of_pos_right _ (Nat.pow_pos (by decide))) h1
theorem e_cost {wl : Int32} {WS : Nat → Int32} (R : RBx BI BA MI MA g G) (S : RS LN SZ CE MA) (t : MI 33 = tr) (a1 a2 a3 a4 a5 : Int32) : ∃ r fa' wl' WS' MI' MA', f_X4_cost wl WS BI BA LN SZ CE a1 a2 a3 a4 a5 = some (r, fa', wl', WS') ∧ f_X5_cost MI MA a1 a2 a3 a4 a5 = some (r, MI', MA') ∧ RLw tr fa' BI BA LN SZ CE MI' MA' := by
  rcases wi a5 (N := 1) (by decide) with ⟨j, hj, e0, e1, e2⟩ | ⟨e1, e2⟩
  · unfold f_X4_cost f_X5_cost
    rw [li1, e1, show (1 : Int64) = lN 1 from rfl, e2]
    rcases TW (wl := wl) (WS := WS) R S a1 a2 a3 a4 with ⟨c, hc, t1, t2⟩ | ⟨⟨n1, n2, n3, n4⟩, ⟨c, f, hc, t1, t2⟩ | ⟨wl', WS', z', t1, t2⟩ | ⟨L, WS', z', wy, hL, rfl, hwy, t1, t2⟩⟩
    · refine ⟨-9223372036854775808, 0, wl, WS, upd MI 0 0, MA, ?_, ?_, RL_f R S t 0⟩
      · rw [t1]
        rcases hc with rfl | rfl | rfl <;> simp only [ibn, i10, ↓reduceIte] <;> rw [if_neg (by decide)]
      · unfold f_X5_refusedLong f_X5_lost
        rcases t2 with ⟨n1, rfl⟩ | ⟨n1, n2, rfl⟩ | ⟨n1, n2, n3, rfl⟩ | ⟨n1, n2, n3, n4, rfl⟩
        · rw [n1]; simp only [ibn, i10, ↓reduceIte]
        · rw [n1, n2]; simp only [ibn, i10, ↓reduceIte]
        · rw [n1, n2, n3]; simp only [ibn, i10, ↓reduceIte]
        · rw [n1, n2, n3, n4]; simp only [ibn, i10, ↓reduceIte]
    · refine ⟨-9223372036854775808, f, wl, WS, upd MI 0 f, MA, ?_, ?_, RL_f R S t f⟩
      · rw [t1]; simp only [ibn, i10, ↓reduceIte, if_neg (nle hc)]
      · rw [n1, n2, n3, t2]; simp only [ibn, i10, ↓reduceIte, if_neg n4, if_neg (nle hc), f_X5_lost]
    · refine ⟨-9223372036854775808, 0, wl', WS', upd MI 0 0, va_up MA 23 z', ?_, ?_, RL_fz R S t 0 z'⟩
      · rw [t1]; simp only [ibn, i10, ↓reduceIte, if_neg (nle (show (-1 : Int32) < 0 by decide))]
      · rw [n1, n2, n3, t2]; simp only [ibn, i10, ↓reduceIte, if_neg n4, if_neg (nle (show (-1 : Int32) < 0 by decide)), f_X5_lost]
    · have R' := R
      obtain ⟨vx, vm, w, -⟩ := R'
      have hw : ∀ s, s < L → wy s < g 0 := fun s hs => (hwy s hs).2.2
      have cx := x_cost vx w hL (fun s hs => (hwy s hs).1) hw
      have cm := m_cost (MA := va_up MA 23 z') (VM_0 (VM_o vm (Or.inl rfl) z') 0) w hL (fun s hs => by rw [vv_s]; exact (hwy s hs).2.1) hw
      have b1 := cX_le w hL hw
      have b2 := cM_le w hL hw
      have b3 := p10_le hL
      have b4 : 0 < 10 ^ L := Nat.pow_pos (by decide)
      refine ⟨lN ((if a5 = 0 then cstX g G wy L else 100000000) / Nat.gcd (cstX g G wy L) 100000000), 0, nI L, WS', upd MI 0 0, va_up MA 23 z', ?_, ?_, RL_fz R S t 0 z'⟩
      · rw [t1]
        simp only [ibn, i10, ↓reduceIte, if_pos (show (0 : Int32) ≤ 0 by decide)]
        rw [cx, ibn, show (100000000 : Int64) = lN 100000000 from rfl, x_lt (by omega) (by decide) (by decide), ibn]
      · rw [n1, n2, n3, t2]
        simp only [ibn, i10, ↓reduceIte, if_neg n4, if_pos (show (0 : Int32) ≤ 0 by decide)]
        rw [cm, ibn, m_tens (by omega), ibn, m_told (by omega) (by omega) b4, ibn, scl hL (cX_cM w hL hw)]
  · refine ⟨-9223372036854775808, 0, wl, WS, upd MI 0 0, MA, ?_, m_c0 _ _ _ _ _ e2, RL_f R S t 0⟩
    unfold f_X4_cost f_X4_lostUnfaulted
    rw [li1, e1]
    simp only [ibn, ↓reduceIte]
/-- the cheapest declaration -/
theorem say_l {L : Nat} {WS : Nat → Int32} {wy : Nat → Nat} (vx : VX BI BA g G) (vm : VM MI MA g G) (w : WF g G) (hL : L ≤ 8) (hW : ∀ s, s < L → WS s = nI (wy s)) (hM : ∀ s, s < L → MA 23 s = nI (wy s)) (hw : ∀ s, s < L → wy s < g 0) (kx : Int32 → Int64 → Int32 → (Nat → Int32) → Option (Int32 × (Nat → Int32))) (km : Int32 → Int64 → Int32 → (Nat → Int32) → Option (Int32 × (Nat → Int32) × (Nat → Nat → Int32))) (r65 : Int32 × (Nat → Int32) × (Nat → Nat → Int32)) (h65 : r65.2.2 = MA) : ∀ d fuel fuel' k b BI' MI', k + d = 2 ^ g 3 → d < fuel → d < fuel' → b < 16 → (∀ u, upd BI' 9 u = upd BI 9 u) → (∀ u, upd MI' 10 u = upd MI 10 u) → MI' 4 = MI 4 → ∃ (b' : Nat) (BI'' MI'' : Nat → Int32), (∀ u, upd BI'' 9 u = upd BI 9 u) ∧ (∀ u, upd MI'' 10 u = upd MI 10 u) ∧ lp_X4_cheapestDeclared_26 kx (nI L) WS BA (nI (2 ^ g 3 - 1)) fuel (nI b) (lN (cstX (va_up g 9 b) G wy L)) (nI k) BI' = kx (nI b') (lN (cstX (va_up g 9 b') G wy L)) (nI (2 ^ g 3)) BI'' ∧ lp_X5_say_94 km (nI L) r65 fuel' (nI b) (lN (cstM (va_up g 9 b) G wy L)) (nI k) MI' = km (nI b') (lN (cstM (va_up g 9 b') G wy L)) (nI (2 ^ g 3)) MI'' := by
  have hq := pw_le w.2.1
  have hq0 := pw_pos (g 3)
  intro d
  induction d with
  | zero =>
    intro fuel fuel' k b BI' MI' hk hf hf' hb hB hM' h4
    obtain ⟨f, rfl⟩ : ∃ f, fuel = f + 1 := ⟨fuel - 1, by omega⟩
    obtain ⟨f', rfl⟩ : ∃ f, fuel' = f + 1 := ⟨fuel' - 1, by omega⟩
    have ha : f_X5_all MI' = some (nI (2 ^ g 3 - 1)) := by unfold f_X5_all; rw [h4, vm.2.1, all_eq w.2.1]
    refine ⟨b, BI', MI', hB, hM', ?_, ?_⟩
    · unfold lp_X4_cheapestDeclared_26
      rw [if_pos (by rw [s_lt (by omega) (by omega)]; omega), show k = 2 ^ g 3 by omega]
    · unfold lp_X5_say_94
      rw [ha, ibind, if_pos (by rw [s_lt (by omega) (by omega)]; omega), show k = 2 ^ g 3 by omega]
  | succ d ih =>
    intro fuel fuel' k b BI' MI' hk hf hf' hb hB hM' h4
    obtain ⟨f, rfl⟩ : ∃ f, fuel = f + 1 := ⟨fuel - 1, by omega⟩
    obtain ⟨f', rfl⟩ : ∃ f, fuel' = f + 1 := ⟨fuel' - 1, by omega⟩
    have ha : f_X5_all MI' = some (nI (2 ^ g 3 - 1)) := by unfold f_X5_all; rw [h4, vm.2.1, all_eq w.2.1]
    have wk := WF_9 w (v := k) (by omega)
    have wb := WF_9 w (v := b) (by omega)
    have hwk : ∀ s, s < L → wy s < (va_up g 9 k) 0 := hw
    have hwb : ∀ s, s < L → wy s < (va_up g 9 b) 0 := hw
    have b1 := cX_le wk hL hwk
    have b2 := cX_le wb hL hwb
    have b3 := cM_le wk hL hwk
    have b4 := cM_le wb hL hwb
    have q1 : ¬ nI (2 ^ g 3 - 1) < nI k := by rw [s_lt (by omega) (by omega)]; omega
    unfold lp_X4_cheapestDeclared_26 lp_X5_say_94
    rw [ha, ibind, if_neg q1, if_neg q1, hB, hM', h65, x_cost (VX_9 vx k) wk hL hW hwk, m_cost (VM_9 vm k) wk hL hM hwk, ibind, ibind, nI_1, if_neg (nI_pos (show b < 2147483648 by omega))]
    have eq : cstX (va_up g 9 b) G wy L ≤ cstX (va_up g 9 k) G wy L ↔ cstM (va_up g 9 b) G wy L ≤ cstM (va_up g 9 k) G wy L := by
      rw [cX_cM wk hL hwk, cX_cM wb hL hwb]
      exact ⟨fun h => Nat.le_of_mul_le_mul_right h (Nat.pow_pos (by decide)), fun h => Nat.mul_le_mul_right _ h⟩
    have c1 : (0 ≤ lg_cmp (lN (cstX (va_up g 9 k) G wy L)) (lN (cstX (va_up g 9 b) G wy L))) ↔ cstM (va_up g 9 b) G wy L ≤ cstM (va_up g 9 k) G wy L := by
      rw [lg_cmp_ge, l_le (by omega) (by omega), eq]
    have c2 : (0 ≤ lg_cmp (lN (cstM (va_up g 9 k) G wy L)) (lN (cstM (va_up g 9 b) G wy L))) ↔ cstM (va_up g 9 b) G wy L ≤ cstM (va_up g 9 k) G wy L := by
      rw [lg_cmp_ge, l_le (by omega) (by omega)]
    by_cases q : cstM (va_up g 9 b) G wy L ≤ cstM (va_up g 9 k) G wy L
    · rw [if_pos (c1.mpr q), if_pos (c2.mpr q)]
      exact ih f f' (k + 1) b _ _ (by omega) (by omega) (by omega) hb (fun u => uu_u BI 9 _ u) (fun u => uu_u MI 10 _ u) (by rw [uu_n _ _ (by decide)])
    · rw [if_neg (fun h => q (c1.mp h)), if_neg (fun h => q (c2.mp h))]
      exact ih f f' (k + 1) k _ _ (by omega) (by omega) (by omega) (by omega) (fun u => uu_u BI 9 _ u) (fun u => uu_u MI 10 _ u) (by rw [uu_n _ _ (by decide)])
theorem say_0 {L : Nat} {WS : Nat → Int32} {wy : Nat → Nat} (vx : VX BI BA g G) (vm : VM MI MA g G) (w : WF g G) (hL : L ≤ 8) (hW : ∀ s, s < L → WS s = nI (wy s)) (hM : ∀ s, s < L → MA 23 s = nI (wy s)) (hw : ∀ s, s < L → wy s < g 0) (r65 : Int32 × (Nat → Int32) × (Nat → Nat → Int32)) (h65 : r65.2.2 = MA) (fu : Nat) (hfu : 20 < fu) : ∃ (b' : Nat), lp_X4_cheapestDeclared_26 (fun el2_26 el3_26 el6_26 eBI_26 => some (el2_26, upd eBI_26 9 (BI 9))) (nI L) WS BA (nI (2 ^ g 3 - 1)) fu 0 9223372036854775807 0 BI = some (nI b', BI) ∧ lp_X5_say_94 (fun el7_94 el8_94 el10_94 eMI_94 => some (el7_94, upd eMI_94 10 (MI 10), MA)) (nI L) r65 fu (-9) 0 0 MI = some (nI b', MI, MA) := by
  have hq := pw_le w.2.1
  have hq0 := pw_pos (g 3)
  obtain ⟨f, rfl⟩ : ∃ f, fu = f + 1 := ⟨fu - 1, by omega⟩
  have ha : f_X5_all MI = some (nI (2 ^ g 3 - 1)) := by unfold f_X5_all; rw [vm.2.1, all_eq w.2.1]
  have wk := WF_9 w (v := 0) (by omega)
  have hwk : ∀ s, s < L → wy s < (va_up g 9 0) 0 := hw
  have b1 := cX_le wk hL hwk
  have q1 : ¬ nI (2 ^ g 3 - 1) < nI 0 := by rw [s_lt (by omega) (by omega)]; omega
  have c1 : ¬ (0 ≤ lg_cmp (lN (cstX (va_up g 9 0) G wy L)) 9223372036854775807) := by
    rw [lg_cmp_ge, show (9223372036854775807 : Int64) = lN 9223372036854775807 from rfl, l_le (by omega) (by omega)]
    omega
  obtain ⟨b', B, M, hB, hM', e1, e2⟩ := say_l vx vm w hL hW hM hw (fun el2_26 el3_26 el6_26 eBI_26 => some (el2_26, upd eBI_26 9 (BI 9))) (fun el7_94 el8_94 el10_94 eMI_94 => some (el7_94, upd eMI_94 10 (MI 10), MA)) r65 h65 (2 ^ g 3 - 1) f f 1 0 (upd BI 9 (nI 0)) (upd MI 10 (nI 0)) (by omega) (by omega) (by omega) (by omega) (fun u => uu_u BI 9 _ u) (fun u => uu_u MI 10 _ u) (by rw [uu_n _ _ (by decide)])
  refine ⟨b', ?_, ?_⟩
  · unfold lp_X4_cheapestDeclared_26
    rw [li0, if_neg q1, x_cost (VX_9 vx 0) wk hL hW hwk, ibind, if_neg (show ¬ nI 0 ≤ _ from c1), nI_1, e1, hB, uu_self]
  · unfold lp_X5_say_94
    rw [ha, ibind, li0, if_neg q1, h65, m_cost (VM_9 vm 0) wk hL hM hwk, ibind, if_pos (by decide), nI_1, e2, hM', uu_self]
theorem e_say {wl : Int32} {WS : Nat → Int32} (R : RBx BI BA MI MA g G) (S : RS LN SZ CE MA) (t : MI 33 = tr) (a1 a2 a3 a4 : Int32) : ∃ r fa' wl' WS' MI' MA', f_X4_say wl WS BI BA LN SZ CE a1 a2 a3 a4 = some (r, fa', wl', WS', BI) ∧ f_X5_say MI MA a1 a2 a3 a4 = some (r, MI', MA') ∧ RLw tr fa' BI BA LN SZ CE MI' MA' := by
  unfold f_X4_say f_X5_say
  rcases TW (wl := wl) (WS := WS) R S a1 a2 a3 a4 with ⟨c, hc, t1, t2⟩ | ⟨⟨n1, n2, n3, n4⟩, ⟨c, f, hc, t1, t2⟩ | ⟨wl', WS', z', t1, t2⟩ | ⟨L, WS', z', wy, hL, rfl, hwy, t1, t2⟩⟩
  · refine ⟨c, 0, wl, WS, upd MI 0 0, MA, ?_, ?_, RL_f R S t 0⟩
    · rw [t1]
      rcases hc with rfl | rfl | rfl <;> simp only [ibn, i10, ↓reduceIte] <;> rw [if_neg (by decide)]
    · unfold f_X5_refused
      rcases t2 with ⟨n1, rfl⟩ | ⟨n1, n2, rfl⟩ | ⟨n1, n2, n3, rfl⟩ | ⟨n1, n2, n3, n4, rfl⟩
      · rw [n1]; simp only [ibn, i10, ↓reduceIte]
      · rw [n1, n2]; simp only [ibn, i10, ↓reduceIte]
      · rw [n1, n2, n3]; simp only [ibn, i10, ↓reduceIte]
      · rw [n1, n2, n3, n4]; simp only [ibn, i10, ↓reduceIte]
  · refine ⟨c, f, wl, WS, upd MI 0 f, MA, ?_, ?_, RL_f R S t f⟩
    · rw [t1]; simp only [ibn, i10, ↓reduceIte, if_neg (nle hc)]
    · rw [n1, n2, n3, t2]; simp only [ibn, i10, ↓reduceIte, if_neg n4, if_neg (nle hc)]
  · refine ⟨-1, 0, wl', WS', upd MI 0 0, va_up MA 23 z', ?_, ?_, RL_fz R S t 0 z'⟩
    · rw [t1]; simp only [ibn, i10, ↓reduceIte, if_neg (nle (show (-1 : Int32) < 0 by decide))]
    · rw [n1, n2, n3, t2]; simp only [ibn, i10, ↓reduceIte, if_neg n4, if_neg (nle (show (-1 : Int32) < 0 by decide))]
  · have R' := R
    obtain ⟨vx, vm, w, -⟩ := R'
    have hw : ∀ s, s < L → wy s < g 0 := fun s hs => (hwy s hs).2.2
    obtain ⟨b', e1, e2⟩ := say_0 (MA := va_up MA 23 z') (MI := upd MI 0 0) vx (VM_0 (VM_o vm (Or.inl rfl) z') 0) w hL (fun s hs => (hwy s hs).1) (fun s hs => by rw [vv_s]; exact (hwy s hs).2.1) hw (0, upd MI 0 0, va_up MA 23 z') rfl 1000 (by decide)
    refine ⟨nI b', 0, nI L, WS', upd MI 0 0, va_up MA 23 z', ?_, ?_, RL_fz R S t 0 z'⟩
    · unfold f_X4_cheapestDeclared
      rw [t1]
      simp only [ibn, i10, ↓reduceIte, if_pos (show (0 : Int32) ≤ 0 by decide)]
      rw [x_all vx w, ibn, e1, ibn]
    · rw [n1, n2, n3, t2]
      simp only [ibn, i10, ↓reduceIte, if_neg n4, if_pos (show (0 : Int32) ≤ 0 by decide)]
      rw [e2]
theorem e_worth {wl : Int32} {WS : Nat → Int32} (R : RBx BI BA MI MA g G) (S : RS LN SZ CE MA) (t : MI 33 = tr) (a1 a2 a3 a4 a5 : Int32) : ∃ r fa' wl' WS' MI' MA', f_X4_worth wl WS BI BA LN SZ CE a1 a2 a3 a4 a5 = some (r, fa', wl', WS', BI) ∧ f_X5_worth MI MA a1 a2 a3 a4 a5 = some (r, MI', MA') ∧ RLw tr fa' BI BA LN SZ CE MI' MA' := by
  have R' := R
  obtain ⟨vx, vm, w, -, h12, -⟩ := R'
  unfold f_X4_worth f_X5_worth
  rcases sx vx vm w a1 with ⟨k, hk, rfl, e1, e2⟩ | ⟨e1, e2⟩
  · rw [e1, e2]
    have w3 := w.2.1
    have hm4 : ¬ MI 4 = 0 := by rw [vm.2.1, s_eq0 (by omega)]; omega
    rcases TW (wl := wl) (WS := WS) R S a2 a3 a4 a5 with ⟨c, hc, t1, t2⟩ | ⟨⟨n1, n2, n3, n4⟩, ⟨c, f, hc, t1, t2⟩ | ⟨wl', WS', z', t1, t2⟩ | ⟨L, WS', z', wy, hL, rfl, hwy, t1, t2⟩⟩
    · refine ⟨-9223372036854775808, 0, wl, WS, upd MI 0 0, MA, ?_, ?_, RL_f R S t 0⟩
      · rw [t1]
        rcases hc with rfl | rfl | rfl <;> simp only [ibn, i10, ↓reduceIte] <;> rw [if_neg (by decide)]
      · unfold f_X5_refusedLong f_X5_lost
        rcases t2 with ⟨n1, rfl⟩ | ⟨n1, n2, rfl⟩ | ⟨n1, n2, n3, rfl⟩ | ⟨n1, n2, n3, n4, rfl⟩
        · rw [n1]; simp only [ibn, i10, ↓reduceIte]
        · rw [n1, n2]; simp only [ibn, i10, ↓reduceIte]
        · rw [n1, n2, n3]; simp only [ibn, i10, ↓reduceIte]
        · exact absurd n4 hm4
    · refine ⟨-9223372036854775808, f, wl, WS, upd MI 0 f, MA, ?_, ?_, RL_f R S t f⟩
      · rw [t1]; simp only [ibn, i10, ↓reduceIte, if_neg (nle hc)]
      · rw [n1, n2, n3, t2]; simp only [ibn, i10, ↓reduceIte, if_neg (nle hc), f_X5_lost]
    · refine ⟨-9223372036854775808, 0, wl', WS', upd MI 0 0, va_up MA 23 z', ?_, ?_, RL_fz R S t 0 z'⟩
      · rw [t1]; simp only [ibn, i10, ↓reduceIte, if_neg (nle (show (-1 : Int32) < 0 by decide))]
      · rw [n1, n2, n3, t2]; simp only [ibn, i10, ↓reduceIte, if_neg (nle (show (-1 : Int32) < 0 by decide)), f_X5_lost]
    · have hw : ∀ s, s < L → wy s < g 0 := fun s hs => (hwy s hs).2.2
      have vm' := VM_0 (VM_o vm (Or.inl rfl) z') 0
      have hz : ∀ s, s < L → (va_up MA 23 z') 23 s = nI (wy s) := fun s hs => by rw [vv_s]; exact (hwy s hs).2.1
      have cx := x_cost vx w hL (fun s hs => (hwy s hs).1) hw
      have cm := m_cost vm' w hL hz hw
      have wk := WF_12 w (v := k) (Or.inl (by omega))
      have hwk : ∀ s, s < L → wy s < (va_up g 12 k) 0 := hw
      have cx2 := x_cost (VX_12 vx k) wk hL (fun s hs => (hwy s hs).1) hwk
      have cm2 := m_cost (VM_12 vm' k) wk hL hz hwk
      rw [low_nI (by omega)] at cx2 cm2
      refine ⟨lN (cstX g G wy L) - lN (cstX (va_up g 12 k) G wy L), 0, nI L, WS', upd MI 0 0, va_up MA 23 z', ?_, ?_, RL_fz R S t 0 z'⟩
      · rw [t1]
        simp only [ibn, i10, ↓reduceIte, if_pos (show (0 : Int32) ≤ 0 by decide)]
        have hb : (-9 : Int32) = BI 12 := by rw [vx.2.2.2.2.2.1, h12]; rfl
        rw [cx, ibn, cx2, ibn, uu_u, hb, uu_self]
      · rw [n1, n2, n3, t2]
        simp only [ibn, i10, ↓reduceIte, if_pos (show (0 : Int32) ≤ 0 by decide)]
        have hb : (-9 : Int32) = (upd MI 0 0) 13 := by rw [vm'.2.2.2.2.2.1, h12]; rfl
        rw [cm, ibn, cm2, ibn, li8, pk_sub (by omega), m_tens (by omega), ibn, uu_u, hb, uu_self, Int64.sub_mul, lN_mul, lN_mul, ← cX_cM w hL hw, ← cX_cM wk hL hwk]
  · refine ⟨-9223372036854775808, 0, wl, WS, upd MI 0 0, MA, ?_, ?_, RL_f R S t 0⟩
    · rw [e1]; simp only [ibn, ↓reduceIte, f_X4_lostUnfaulted]
    · rw [e2]; simp only [ibn, ↓reduceIte, i10, f_X5_refusedLong, f_X5_lost]
/-- the cheapest post -/
theorem rd_l (vx : VX BI BA g G) (w : WF g G) (hM : VM MI MA g G) (kx : Int32 → Int64 → Int32 → Int32 → (Nat → Int32) → Option (Int32 × Int32 × (Nat → Int32))) (km : Int32 → Int64 → Int32 → (Nat → Nat → Int32) → Option (Int32 × (Nat → Nat → Int32))) : ∀ d fuel fuel' k b (wl : Int32) (WS z : Nat → Int32), k + d = g 0 → d < fuel → d < fuel' → b < k → ∃ (b' : Nat) (wl' : Int32) (WS' z' : Nat → Int32), lp_X4_road_22 kx BI BA fuel (nI b) (lN (cstX g G (fun _ => b) 1)) (nI k) wl WS = kx (nI b') (lN (cstX g G (fun _ => b') 1)) (nI (g 0)) wl' WS' ∧ lp_X5_road_19 km MI fuel' (nI b) (lN (cstM g G (fun _ => b) 1)) (nI k) (va_up MA 23 z) = km (nI b') (lN (cstM g G (fun _ => b') 1)) (nI (g 0)) (va_up MA 23 z') := by
  have w0 := w.1
  intro d
  induction d with
  | zero =>
    intro fuel fuel' k b wl WS z hk hf hf' hb
    obtain ⟨f, rfl⟩ : ∃ f, fuel = f + 1 := ⟨fuel - 1, by omega⟩
    obtain ⟨f', rfl⟩ : ∃ f, fuel' = f + 1 := ⟨fuel' - 1, by omega⟩
    have q1 : nI (g 0) ≤ nI k := by rw [s_le (by omega) (by omega)]; omega
    refine ⟨b, wl, WS, z, ?_, ?_⟩
    · unfold lp_X4_road_22
      rw [vx.1, if_pos q1, show k = g 0 by omega]
    · unfold lp_X5_road_19
      rw [hM.1, if_pos q1, show k = g 0 by omega]
  | succ d ih =>
    intro fuel fuel' k b wl WS z hk hf hf' hb
    obtain ⟨f, rfl⟩ : ∃ f, fuel = f + 1 := ⟨fuel - 1, by omega⟩
    obtain ⟨f', rfl⟩ : ∃ f, fuel' = f + 1 := ⟨fuel' - 1, by omega⟩
    have q1 : ¬ nI (g 0) ≤ nI k := by rw [s_le (by omega) (by omega)]; omega
    have hwk : ∀ s, s < 1 → (fun _ : Nat => k) s < g 0 := fun s hs => by show k < g 0; omega
    have hwb : ∀ s, s < 1 → (fun _ : Nat => b) s < g 0 := fun s hs => by show b < g 0; omega
    have b1 := cX_le w (L := 1) (by decide) hwk
    have b2 := cX_le w (L := 1) (by decide) hwb
    have b3 := cM_le w (L := 1) (by decide) hwk
    have b4 := cM_le w (L := 1) (by decide) hwb
    have hgo : f_X3_goOn 0 WS (nI k) = some (nI 1, upd WS 0 (nI k)) := by
      unfold f_X3_goOn
      rw [if_neg (by decide), if_neg (by decide)]
      rfl
    have hX : ∀ s, s < 1 → (upd WS 0 (nI k)) s = nI k := fun s hs => by rw [show s = 0 by omega, uu_s]
    have hz : ∀ s, s < 1 → (va_up MA 23 (upd z 0 (nI k))) 23 s = nI k := fun s hs => by rw [show s = 0 by omega, vv_s, uu_s]
    have cx := x_cost vx w (L := 1) (by decide) hX hwk
    have cm := m_cost (VM_o hM (Or.inl rfl) (upd z 0 (nI k))) w (L := 1) (by decide) hz hwk
    have hcl : (0 : Int32).toNatClampNeg = 0 := rfl
    unfold lp_X4_road_22 lp_X5_road_19
    rw [vx.1, hM.1, if_neg q1, if_neg q1, if_neg (show ¬ ((0 : Int32) < 0 ∨ 8 ≤ (0 : Int32).toNatClampNeg) by decide), show f_X3_begin = some 0 from rfl, ibn, hgo, ibn]
    simp only [hcl, vv_s, vv_v]
    rw [cx, li1, cm, ibn, ibn, s_add]
    have eq : cstX g G (fun _ => b) 1 ≤ cstX g G (fun _ => k) 1 ↔ cstM g G (fun _ => b) 1 ≤ cstM g G (fun _ => k) 1 := by
      rw [cX_cM w (by decide) hwk, cX_cM w (by decide) hwb]
      exact ⟨fun h => Nat.le_of_mul_le_mul_right h (Nat.pow_pos (by decide)), fun h => Nat.mul_le_mul_right _ h⟩
    have c1 : (0 ≤ lg_cmp (lN (cstX g G (fun _ => k) 1)) (lN (cstX g G (fun _ => b) 1))) ↔ cstM g G (fun _ => b) 1 ≤ cstM g G (fun _ => k) 1 := by
      rw [lg_cmp_ge, l_le (by omega) (by omega), eq]
    have c2 : (0 ≤ lg_cmp (lN (cstM g G (fun _ => k) 1)) (lN (cstM g G (fun _ => b) 1))) ↔ cstM g G (fun _ => b) 1 ≤ cstM g G (fun _ => k) 1 := by
      rw [lg_cmp_ge, l_le (by omega) (by omega)]
    have c3 : ¬ lg_cmp (lN (cstM g G (fun _ => b) 1)) 0 < 0 := by
      rw [lg_cmp_lt, Int64.lt_iff_toInt_lt]
      show ¬ (Int64.ofNat _).toInt < (0 : Int)
      rw [lg_ofNat_toInt (by omega)]
      omega
    have c4 : ¬ nI b = nI k := by rw [s_eq (by omega) (by omega)]; omega
    rw [if_neg c3]
    by_cases q : cstM g G (fun _ => b) 1 ≤ cstM g G (fun _ => k) 1
    · rw [if_pos (c1.mpr q), if_pos (c2.mpr q), if_neg c4]
      exact ih f f' (k + 1) b _ _ _ (by omega) (by omega) (by omega) (by omega)
    · rw [if_neg (fun h => q (c1.mp h)), if_neg (fun h => q (c2.mp h)), if_pos trivial]
      exact ih f f' (k + 1) k _ _ _ (by omega) (by omega) (by omega) (by omega)
theorem e_road {wl : Int32} {WS : Nat → Int32} (R : RBx BI BA MI MA g G) : ∃ r wl' WS' z, f_X4_road wl WS BI BA = some (r, wl', WS') ∧ f_X5_road MI MA = some (r, va_up MA 23 z) := by
  obtain ⟨vx, vm, w, h03, h12, -⟩ := R
  have w0 := w.1
  have w3 := w.2.1
  have hmi : f_X0_isMissing BI = some (if g 0 = 0 then 1 else 0) := by
    unfold f_X0_isMissing
    rw [vx.1]
    simp only [s_eq0 (show g 0 < 2147483648 by omega)]
    split <;> rfl
  have hm4 : MI 4 = 0 ↔ g 3 = 0 := by rw [vm.2.1, s_eq0 (by omega)]
  unfold f_X4_road f_X5_road
  rw [hmi]
  by_cases q : g 0 = 0
  · refine ⟨-3, wl, WS, MA 23, ?_, ?_⟩
    · rw [if_pos q, ibn, if_neg i10]
    · rw [if_pos (hm4.mpr (h03.mp q)), vv_self]
  · rw [if_neg q, ibn, if_pos rfl, if_neg (fun h => q (h03.mpr (hm4.mp h)))]
    generalize hfu : 1000 = fu
    obtain ⟨f, rfl⟩ : ∃ f, fu = f + 1 := ⟨fu - 1, by omega⟩
    have q1 : ¬ nI (g 0) ≤ nI 0 := by rw [s_le (by omega) (by omega)]; omega
    have hwk : ∀ s, s < 1 → (fun _ : Nat => 0) s < g 0 := fun s hs => by show 0 < g 0; omega
    have b1 := cX_le w (L := 1) (by decide) hwk
    have hgo : f_X3_goOn 0 WS (nI 0) = some (nI 1, upd WS 0 (nI 0)) := by
      unfold f_X3_goOn
      rw [if_neg (by decide), if_neg (by decide)]
      rfl
    have hX : ∀ s, s < 1 → (upd WS 0 (nI 0)) s = nI 0 := fun s hs => by rw [show s = 0 by omega, uu_s]
    have hz : ∀ s, s < 1 → (va_up MA 23 (upd (MA 23) 0 (nI 0))) 23 s = nI 0 := fun s hs => by rw [show s = 0 by omega, vv_s, uu_s]
    have cx := x_cost vx w (L := 1) (by decide) hX hwk
    have cm := m_cost (VM_o vm (Or.inl rfl) (upd (MA 23) 0 (nI 0))) w (L := 1) (by decide) hz hwk
    have hcl : (0 : Int32).toNatClampNeg = 0 := rfl
    have c1 : ¬ (0 ≤ lg_cmp (lN (cstX g G (fun _ => 0) 1)) 9223372036854775807) := by
      rw [lg_cmp_ge, show (9223372036854775807 : Int64) = lN 9223372036854775807 from rfl, l_le (by omega) (by omega)]
      omega
    obtain ⟨b', wl', WS', z', e1, e2⟩ := rd_l vx w vm (fun el1_22 el2_22 el4_22 ewl_22 eWS_22 => some (el1_22, ewl_22, eWS_22)) (fun el1_19 el2_19 el4_19 eMA_19 => some (el1_19, eMA_19)) (g 0 - 1) f f 1 0 (nI 1) (upd WS 0 (nI 0)) (upd (MA 23) 0 (nI 0)) (by omega) (by omega) (by omega) (by omega)
    refine ⟨nI b', wl', WS', z', ?_, ?_⟩
    · unfold lp_X4_road_22
      rw [show f_X3_begin = some 0 from rfl, ibn, vx.1, show (0 : Int32) = nI 0 from rfl, if_neg q1, ← show (0 : Int32) = nI 0 from rfl, show f_X3_goOn 0 WS 0 = _ from hgo, ibn, cx, ibn, if_neg c1, show (0 : Int32) = nI 0 from rfl, nI_1, e1]
    · unfold lp_X5_road_19
      rw [vm.1, if_neg (show ¬ nI (g 0) ≤ 0 from q1), if_neg (show ¬ ((0 : Int32) < 0 ∨ 8 ≤ (0 : Int32).toNatClampNeg) by decide)]
      simp only [hcl]
      rw [show f_X5_costNow MI (va_up MA 23 (upd (MA 23) 0 0)) 1 = _ from cm, ibn, if_pos (by decide), if_pos trivial, show (0 : Int32) = nI 0 from rfl, nI_1, e2]
end CS
