/-! the whole text -/
theorem x_fl3 (kk : Int32 → (Nat → Int32) → Option (Nat → Int32)) : ∀ d fuel x AF, x + d = 3 → d < fuel → lp_J7_fill_53178_5 kk 3 0 fuel (nI x) AF = kk (nI 3) (bz (fun _ => 0) AF x 3) := by
  intro d
  induction d with
  | zero =>
    intro fuel x AF hx hf
    obtain ⟨f, rfl⟩ : ∃ f, fuel = f + 1 := ⟨fuel - 1, by omega⟩
    unfold lp_J7_fill_53178_5
    rw [show x = 3 by omega, bz_end, if_pos (by decide)]
  | succ d ih =>
    intro fuel x AF hx hf
    obtain ⟨f, rfl⟩ : ∃ f, fuel = f + 1 := ⟨fuel - 1, by omega⟩
    unfold lp_J7_fill_53178_5
    rw [show Int32.ofNat 3 = nI 3 from rfl, if_neg (show ¬ nI 3 ≤ nI x by rw [s_le (by omega) (by omega)]; omega), s_cl (by omega), if_neg (gdc (show x < 3 by omega) (by decide)), nI_1, ih f (x + 1) _ (by omega) (by omega), ← bz_step (fun _ => 0) AF (show x < 3 by omega)]
def gz : Nat → Nat := fun q => if q = 10 then 7 else if q = 12 then 99 else 0
def Gz : Nat → Nat → Nat := fun _ _ => 0
section RG
variable {SI : Nat → Int32} {SA : Nat → Nat → Int32} {MI : Nat → Int32} {MA : Nat → Nat → Int32} {ce : Nat → Int32} {j i n s : Nat}
theorem x_beg (h12 : SI 12 = -9) : ∃ SI1 SA1, f_X0_begin SI SA = some (SI1, SA1) ∧ VX SI1 SA1 gz Gz := by
  unfold f_X0_begin f_J7_fill_53178
  generalize hfu : 1000 = fu
  have h := x_fl3 (fun el2_5 eAF_5 => some eAF_5) 3 fu 0 (SA 8) (by omega) (by omega)
  rw [show nI 0 = (0 : Int32) from rfl] at h
  rw [h, ibn]
  refine ⟨_, _, rfl, ?_⟩
  refine ⟨rfl, rfl, rfl, rfl, rfl, ?_, rfl, fun p hp => absurd hp (Nat.not_lt_zero _), fun p hp => absurd hp (Nat.not_lt_zero _), fun c hc => ?_, fun p hp => absurd hp (Nat.not_lt_zero _)⟩
  · exact h12
  · rw [vv_s, bz_i _ _ (by omega)]
    rfl
theorem NW_z {v : Nat} (hv : v ≤ 9) : NW (va_up gz 11 v) Gz := by
  refine ⟨⟨(by decide : (0 : Nat) ≤ 4), (by decide : (0 : Nat) ≤ 4), (by decide : (0 : Nat) < 16), (by decide : (7 : Nat) ≤ 7), hv, Or.inr rfl, (by decide : (0 : Nat) ≤ 8), fun p hp => absurd hp (Nat.not_lt_zero _), fun p hp => absurd hp (Nat.not_lt_zero _), fun c hc => Nat.zero_le _, fun p hp => absurd hp (Nat.not_lt_zero _)⟩, rfl, rfl, rfl, rfl, fun p hp => absurd hp (Nat.not_lt_zero _), fun c hc => rfl⟩
theorem ag_r : ag MI MI := fun _ _ => rfl
theorem agA_r : agA MA MA := fun _ _ => rfl
theorem rf {a : Nat} (h12 : SI 12 = -9) (hj : j < 4) (hin : i + n ≤ s) (hs : s ≤ 60) (hc : ∀ x, x < s → ce x = MA 31 (60 * j + x)) :
    (∃ x' SI' SA' MI' MA', x' ≤ 60 ∧ f_X2_readInto a (nI s) ce SI SA (nI i) (nI n) = some (0, some a, nI i, nI n, nI x', SI', SA') ∧ SI' 12 = -9 ∧ f_X5_readsFrontier MI MA (nI (60 * j + i)) (nI n) = some (0, MI', MA') ∧ MI' 14 = nI x' ∧ ag MI MI' ∧ agA MA MA') ∨
    (∃ (g' : Nat → Nat) (G' : Nat → Nat → Nat) (SI' : Nat → Int32) (SA' : Nat → Nat → Int32) (MI' : Nat → Int32) (MA' : Nat → Nat → Int32), f_X2_readInto a (nI s) ce SI SA (nI i) (nI n) = some (1, some a, nI i, nI n, nI n, SI', SA') ∧ VX SI' SA' g' G' ∧ NW g' G' ∧ PT MI' MA' g' G' n ∧ ag MI MI' ∧ agA MA MA' ∧ 0 < g' 3 ∧ 0 < g' 0 ∧ f_X5_readsFrontier MI MA (nI (60 * j + i)) (nI n) = some (1, MI', MA')) := by
  obtain ⟨SI1, SA1, hb, vz⟩ := x_beg (SA := SA) h12
  have hS12 : SI1 12 = -9 := vz.2.2.2.2.2.1
  have a1 : ag MI (upd (upd (upd MI 14 0) 16 0) 17 0) := ag_u (ag_u (ag_u ag_r (by decide) _) (by decide) _) (by decide) _
  have fin : ∀ (x' : Nat) (MI' : Nat → Int32) (MA' : Nat → Nat → Int32), lp_X5_readsFrontier_115 (fun el3_115 eMI_115 eMA_115 => if el3_115 = 0 ∨ el3_115 = 1 then some (el3_115, eMI_115, eMA_115) else none) (nI (60 * j + i)) (nI n) 1000 0 MI' MA' = some (0, MI', MA') := by
    intro x' MI' MA'
    rw [m115_0 _ _ _ (by decide), if_pos (Or.inl rfl)]
  unfold f_X2_readInto f_X5_readsFrontier jb_X5_readsFrontier_31 jb_X5_readsFrontier_46 jb_X5_readsFrontier_67 jb_X5_readsFrontier_82
  rw [hb, m_code (MI := upd (upd (upd MI 14 0) 16 0) 17 0) hj hin hs hc (x := 0) (by decide) rfl]
  simp only [ibn]
  by_cases q : cdF ce i n 0 = 117
  · have hn0 : 0 < n := cd_lt (by rw [q]; decide)
    have t1 := t_y (lo := 117) (hi := 117) hin hs (x := 0) (by decide) (by rw [q]; decide) (by rw [q]; decide)
    rw [show nI 0 = (0 : Int32) from rfl] at t1
    rw [t1, if_pos q]
    simp only [ibn, if_neg i10]
    have h14 : (upd (upd (upd MI 14 0) 16 0) 17 0) 14 + (1 : Int32) = nI 1 := rfl
    rw [h14]
    rcases m_fig (MI := upd (upd (upd (upd MI 14 0) 16 0) 17 0) 14 (nI 1)) hj hin hs hc (x := 1) (lo := 0) (by decide) (by decide) (uu_s _ _ _) with ⟨v, b1, b2, b3, b4, b5⟩ | ⟨b1, b2⟩
    · rw [show f_X5_figure (upd (upd (upd (upd MI 14 0) 16 0) 17 0) 14 (nI 1)) MA (nI (60 * j + i)) (nI n) 0 = _ from b5, t_y (x := 0 + 1) hin hs (by decide) (by rw [b4]; show ¬ nI (48 + v) < nI 48; rw [s_lt (by omega) (by omega)]; omega) (by rw [b4]; show nI (48 + v) ≤ nI 57; rw [s_le (by omega) (by omega)]; omega)]
      simp only [ibn, if_neg i10, uu_s, if_neg (nI_pos (show v < 2147483648 by omega))]
      rw [show f_X2_digitBefore (nI i) (nI (0 + 1 + 1)) (nI s) ce 1 = _ from x_dig (k := 1) (x := 1) hin hs b3 b4]
      simp only [ibn]
      unfold f_X2_readPosts f_X2_readSilences
      have a2 : ag MI (upd (upd (upd (upd (upd (upd MI 14 0) 16 0) 17 0) 14 (nI 1)) 14 (nI (1 + 1))) 15 (nI v)) := ag_u (ag_u (ag_u a1 (by decide) _) (by decide) _) (by decide) _
      have P : PT (upd (upd (upd (upd (upd (upd MI 14 0) 16 0) 17 0) 14 (nI 1)) 14 (nI (1 + 1))) 15 (nI v)) MA (va_up gz 11 v) Gz 2 := ⟨rfl, rfl, rfl, rfl, fun p hp => absurd hp (Nat.not_lt_zero _), fun p hp => absurd hp (Nat.not_lt_zero _)⟩
      have hpl := pl (MI0 := MI) (MA0 := MA) hj hin hs hc (fun el3_83 eMI_83 eMA_83 => lp_X5_readsFrontier_115 (fun el3_115 eMI_115 eMA_115 => if el3_115 = 0 ∨ el3_115 = 1 then some (el3_115, eMI_115, eMA_115) else none) (nI (60 * j + i)) (nI n) 1000 el3_83 eMI_83 eMA_83) 4 1000 1000 (va_up gz 11 v) Gz (upd SI1 11 (nI v)) SA1 _ MA 2 rfl (by decide) (by decide) (VX_11 vz v) (NW_z b2) P a2 agA_r (by omega) rfl
      rw [show nI ((va_up gz 11 v) 0) = (0 : Int32) from rfl] at hpl
      rw [show (0 : Nat) + 1 + 1 = 2 from rfl]
      rcases hpl with ⟨x', SI', SA', MI', MA', hx', c1, c2, c3, c4, c5, c6⟩ | ⟨g', G', x', SI', SA', MI', MA', hx', c1, V', w', P', a', aA', g3', g0', hm⟩
      · left
        refine ⟨x', SI', SA', MI', MA', by omega, ?_, c2, ?_, c4, c5, c6⟩
        · rw [c1]
          simp only [ibn, ↓reduceIte]
        · rw [c3, fin x']
      · rw [c1]
        simp only [ibn, if_neg i10]
        have hsil : nI (g' 3) = (0 : Int32) := by rw [g3']; rfl
        rcases hm with hm | ⟨hm, hcd⟩
        · have hsl := sl (MI0 := MI) (MA0 := MA) hj hin hs hc (fun el3_115 eMI_115 eMA_115 => if el3_115 = 0 ∨ el3_115 = 1 then some (el3_115, eMI_115, eMA_115) else none) 4 1000 1000 g' G' SI' SA' MI' MA' x' (by omega) (by decide) (by decide) V' w' P' a' aA' hx' g0'
          rw [hsil] at hsl
          rw [hm]
          rcases hsl with ⟨y, r, SI2, SA2, MI2, MA2, hy, hr, d1, d2, d3, d4, d5, d6⟩ | ⟨g2, G2, SI2, SA2, MI2, MA2, d1, d2, d3, d4, d5, d6, d7, d8, d9⟩
          · left
            refine ⟨y, SI2, SA2, MI2, MA2, by omega, ?_, d2, ?_, d4, d5, d6⟩
            · rw [d1]
              simp only [ibn]
              rcases hr with rfl | ⟨rfl, hyn⟩
              · rw [if_pos rfl]
              · rw [if_neg i10, if_neg (show ¬ nI y = nI n by rw [s_eq (by omega) (by omega)]; exact hyn)]
            · rw [d3, if_pos (Or.inl rfl)]
          · right
            refine ⟨g2, G2, SI2, SA2, MI2, MA2, ?_, d2, d3, d4, d5, d6, d7, d8, ?_⟩
            · rw [d1]
              simp only [ibn, if_neg i10, ↓reduceIte]
            · rw [d9, if_pos (Or.inr rfl)]
        · left
          refine ⟨x', SI', SA', MI', MA', by omega, ?_, ?_, ?_, P'.1, a', aA'⟩
          · have hcl : lp_X2_readSilences_2 (fun el2_2 era_2 eBI_2 eBA_2 => some ((1 : Int32), era_2, eBI_2, eBA_2)) (nI i) (nI n) (nI s) ce 1000 0 (nI x') SI' SA' = some (0, nI x', SI', SA') := by
              generalize hfu : 1000 = fu
              obtain ⟨f, rfl⟩ : ∃ f, fu = f + 1 := ⟨fu - 1, by omega⟩
              unfold lp_X2_readSilences_2
              rw [if_neg (by decide), if_pos (by decide), t_n hin hs (by omega) (Or.inr (by rw [hcd]; decide))]
              simp only [ibn, ↓reduceIte]
            rw [hcl]
            simp only [ibn, ↓reduceIte]
          · rw [V'.2.2.2.2.2.1, w'.2.2.2.1]; rfl
          · rw [hm, fin x']
    · left
      refine ⟨1, SI1, SA1, upd (upd (upd (upd (upd MI 14 0) 16 0) 17 0) 14 (nI 1)) 15 (-9), MA, by decide, ?_, hS12, ?_, rfl, ag_u (ag_u a1 (by decide) _) (by decide) _, agA_r⟩
      · rw [show (0 : Nat) + 1 = 1 from rfl, t_n (lo := 48) hin hs (by decide) b1]
        simp only [ibn, ↓reduceIte]
      · rw [show f_X5_figure (upd (upd (upd (upd MI 14 0) 16 0) 17 0) 14 (nI 1)) MA (nI (60 * j + i)) (nI n) 0 = _ from b2]
        simp only [ibn, uu_s, if_pos (show (-9 : Int32) < 0 by decide)]
        rw [m83_0 _ _ _ (by decide), fin 0]
  · left
    have t1 := t_n (lo := 117) (hi := 117) hin hs (x := 0) (by decide) (by
      by_cases h1 : cdF ce i n 0 < 117
      · exact Or.inl h1
      · right
        intro h2
        apply q
        rw [Int32.lt_iff_toInt_lt] at h1
        rw [Int32.le_iff_toInt_le] at h2
        exact Int32.toInt_inj.mp (by omega))
    rw [show nI 0 = (0 : Int32) from rfl] at t1
    refine ⟨0, SI1, SA1, upd (upd (upd (upd (upd MI 14 0) 16 0) 17 0) 14 ((upd (upd (upd MI 14 0) 16 0) 17 0) 14 + 0)) 15 (-9), MA, by decide, ?_, hS12, ?_, rfl, ag_u (ag_u a1 (by decide) _) (by decide) _, agA_r⟩
    · rw [t1]
      simp only [ibn, ↓reduceIte]
      rfl
    · rw [if_neg q]
      simp only [↓reduceIte, uu_s, if_pos (show (-9 : Int32) < 0 by decide)]
      rw [m83_0 _ _ _ (by decide), fin 0]
end RG
