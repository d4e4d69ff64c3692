/-! the frontier -/
section FR
variable {BI SI : Nat → Int32} {BA SA : Nat → Nat → Int32} {MI : Nat → Int32} {MA : Nat → Nat → Int32} {g : Nat → Nat} {G : Nat → Nat → Nat} {LN SZ : Nat → Int32} {CE : Nat → Nat → Int32} {tr fa : Int32}
theorem st106 (kk : Int32 → (Nat → Nat → Int32) → Option (Int32 × (Nat → Int32) × (Nat → Nat → Int32))) (f : Nat) {k : Nat} (hk : k < 4) (M : Nat → Nat → Int32) : lp_X5_frontier_106 kk (f + 1) (nI k) M = lp_X5_frontier_106 kk f (nI (k + 1)) (va_up (va_up (va_up (va_up (va_up (va_up M 2 (upd (M 2) k (M 18 k))) 3 (upd (M 3) k (M 19 k))) 5 (upd (M 5) k (M 20 k))) 6 (upd (M 6) k (M 21 k))) 7 (upd (M 7) k (M 22 k))) 8 (upd (M 8) k 0)) := by
  rw [lp_X5_frontier_106]
  rw [if_neg (show ¬ (4 : Int32) ≤ nI k by rw [li4, s_le (by omega) (by omega)]; omega), s_cl (show k < 2147483648 by omega)]
  simp only [if_neg (gdc hk (by decide)), nI_1]
  simp (discharger := decide) only [vv_s, vv_n]
def cpI (M0 M : Nat → Nat → Int32) (k : Nat) : Prop := (∀ q, q ≠ 2 → q ≠ 3 → q ≠ 5 → q ≠ 6 → q ≠ 7 → q ≠ 8 → M q = M0 q) ∧ ∀ y, y < k → M 2 y = M0 18 y ∧ M 3 y = M0 19 y ∧ M 5 y = M0 20 y ∧ M 6 y = M0 21 y ∧ M 7 y = M0 22 y ∧ M 8 y = 0
theorem m106 (kk : Int32 → (Nat → Nat → Int32) → Option (Int32 × (Nat → Int32) × (Nat → Nat → Int32))) (M0 : Nat → Nat → Int32) : ∀ d fuel k M, k + d = 4 → d < fuel → cpI M0 M k → ∃ M', cpI M0 M' 4 ∧ lp_X5_frontier_106 kk fuel (nI k) M = kk (nI 4) M' := by
  intro d
  induction d with
  | zero =>
    intro fuel k M hk hf hI
    obtain ⟨f, rfl⟩ : ∃ f, fuel = f + 1 := ⟨fuel - 1, by omega⟩
    rw [show k = 4 by omega] at hI ⊢
    refine ⟨M, hI, ?_⟩
    rw [lp_X5_frontier_106]
    rw [if_pos (by decide)]
  | succ d ih =>
    intro fuel k M hk hf hI
    obtain ⟨f, rfl⟩ : ∃ f, fuel = f + 1 := ⟨fuel - 1, by omega⟩
    rw [st106 kk f (by omega) M]
    refine ih f (k + 1) _ (by omega) (by omega) ⟨fun q h2 h3 h5 h6 h7 h8 => ?_, fun y hy => ?_⟩
    · rw [vv_n _ _ h8, vv_n _ _ h7, vv_n _ _ h6, vv_n _ _ h5, vv_n _ _ h3, vv_n _ _ h2]
      exact hI.1 q h2 h3 h5 h6 h7 h8
    · simp (discharger := decide) only [vv_s, vv_n]
      by_cases e : y = k
      · subst e
        simp only [uu_s]
        rw [hI.1 18 (by decide) (by decide) (by decide) (by decide) (by decide) (by decide), hI.1 19 (by decide) (by decide) (by decide) (by decide) (by decide) (by decide), hI.1 20 (by decide) (by decide) (by decide) (by decide) (by decide) (by decide), hI.1 21 (by decide) (by decide) (by decide) (by decide) (by decide) (by decide), hI.1 22 (by decide) (by decide) (by decide) (by decide) (by decide) (by decide)]
        exact ⟨rfl, rfl, rfl, rfl, rfl, trivial⟩
      · rw [uu_n _ _ e, uu_n _ _ e, uu_n _ _ e, uu_n _ _ e, uu_n _ _ e, uu_n _ _ e]
        exact hI.2 y (by omega)
theorem m199 (kk : Int32 → (Nat → Nat → Int32) → Option (Int32 × (Nat → Int32) × (Nat → Nat → Int32))) (M : Nat → Nat → Int32) : ∀ d fuel x z, x + d = 3 → d < fuel → lp_X5_frontier_199 kk fuel (nI x) (va_up M 9 z) = kk (nI 3) (va_up M 9 (bz (fun _ => 0) z x 3)) := by
  intro d
  induction d with
  | zero =>
    intro fuel x z hx hf
    obtain ⟨f, rfl⟩ : ∃ f, fuel = f + 1 := ⟨fuel - 1, by omega⟩
    unfold lp_X5_frontier_199
    rw [show x = 3 by omega, bz_end, if_pos (by decide)]
  | succ d ih =>
    intro fuel x z hx hf
    obtain ⟨f, rfl⟩ : ∃ f, fuel = f + 1 := ⟨fuel - 1, by omega⟩
    unfold lp_X5_frontier_199
    rw [if_neg (show ¬ (3 : Int32) ≤ nI x by rw [li3, s_le (by omega) (by omega)]; omega), s_cl (by omega), if_neg (gdc (show x < 3 by omega) (by decide)), nI_1, vv_s, vv_v, ih f (x + 1) _ (by omega) (by omega), ← bz_step (fun _ => 0) z (show x < 3 by omega)]
/-- what the reference does with a text that reads -/
theorem m_take (vm : VM MI MA g G) (h12 : g 12 = 99) (S : RS LN SZ CE MA) {MI' : Nat → Int32} {MA' : Nat → Nat → Int32} {g' : Nat → Nat} {G' : Nat → Nat → Nat} {n : Nat} (V : VX SI SA g' G') (w : NW g' G') (P : PT MI' MA' g' G' n) (a : ag MI MI') (aA : agA MA MA') (h3 : 0 < g' 3) (h0 : 0 < g' 0) (t : MI 33 = tr) (fu : Nat) (hfu : 10 < fu) :
    ∃ MI2 MA2, lp_X5_frontier_106 (fun el6_106 eMA_106 => lp_X5_frontier_199 (fun el6_199 eMA_199 => Option.bind (f_X5_all (upd (upd (upd MI' 11 (MI' 15)) 1 ((upd MI' 11 (MI' 15)) 16)) 4 ((upd (upd MI' 11 (MI' 15)) 1 ((upd MI' 11 (MI' 15)) 16)) 17))) fun r221 => Option.bind (f_X5_refused (upd (upd (upd (upd (upd (upd MI' 11 (MI' 15)) 1 ((upd MI' 11 (MI' 15)) 16)) 4 ((upd (upd MI' 11 (MI' 15)) 1 ((upd MI' 11 (MI' 15)) 16)) 17)) 10 r221) 12 (7 : Int32)) 26 (0 : Int32)) ((upd (upd (upd (upd (upd (upd MI' 11 (MI' 15)) 1 ((upd MI' 11 (MI' 15)) 16)) 4 ((upd (upd MI' 11 (MI' 15)) 1 ((upd MI' 11 (MI' 15)) 16)) 17)) 10 r221) 12 (7 : Int32)) 26 (0 : Int32)) 4)) fun r243 => some (r243.1, r243.2, eMA_199)) fu (0 : Int32) eMA_106) fu (0 : Int32) MA' = some (nI (g' 3), MI2, MA2) ∧ RLw tr 0 SI SA LN SZ CE MI2 MA2 := by
  obtain ⟨p1, p2, p3, p4, p5, p6⟩ := P
  obtain ⟨w', n1, n2, n3, n4, n5, n6⟩ := id w
  have w3 := w'.2.1
  have w0 := w'.1
  obtain ⟨M', hI, e106⟩ := m106 (fun el6_106 eMA_106 => lp_X5_frontier_199 (fun el6_199 eMA_199 => Option.bind (f_X5_all (upd (upd (upd MI' 11 (MI' 15)) 1 ((upd MI' 11 (MI' 15)) 16)) 4 ((upd (upd MI' 11 (MI' 15)) 1 ((upd MI' 11 (MI' 15)) 16)) 17))) fun r221 => Option.bind (f_X5_refused (upd (upd (upd (upd (upd (upd MI' 11 (MI' 15)) 1 ((upd MI' 11 (MI' 15)) 16)) 4 ((upd (upd MI' 11 (MI' 15)) 1 ((upd MI' 11 (MI' 15)) 16)) 17)) 10 r221) 12 (7 : Int32)) 26 (0 : Int32)) ((upd (upd (upd (upd (upd (upd MI' 11 (MI' 15)) 1 ((upd MI' 11 (MI' 15)) 16)) 4 ((upd (upd MI' 11 (MI' 15)) 1 ((upd MI' 11 (MI' 15)) 16)) 17)) 10 r221) 12 (7 : Int32)) 26 (0 : Int32)) 4)) fun r243 => some (r243.1, r243.2, eMA_199)) fu (0 : Int32) eMA_106) MA' 4 fu 0 MA' rfl (by omega) ⟨fun _ _ _ _ _ _ _ => rfl, fun y hy => absurd hy (Nat.not_lt_zero _)⟩
  rw [show nI 0 = (0 : Int32) from rfl] at e106
  rw [e106]
  have e199 := m199 (fun el6_199 eMA_199 => Option.bind (f_X5_all (upd (upd (upd MI' 11 (MI' 15)) 1 ((upd MI' 11 (MI' 15)) 16)) 4 ((upd (upd MI' 11 (MI' 15)) 1 ((upd MI' 11 (MI' 15)) 16)) 17))) fun r221 => Option.bind (f_X5_refused (upd (upd (upd (upd (upd (upd MI' 11 (MI' 15)) 1 ((upd MI' 11 (MI' 15)) 16)) 4 ((upd (upd MI' 11 (MI' 15)) 1 ((upd MI' 11 (MI' 15)) 16)) 17)) 10 r221) 12 (7 : Int32)) 26 (0 : Int32)) ((upd (upd (upd (upd (upd (upd MI' 11 (MI' 15)) 1 ((upd MI' 11 (MI' 15)) 16)) 4 ((upd (upd MI' 11 (MI' 15)) 1 ((upd MI' 11 (MI' 15)) 16)) 17)) 10 r221) 12 (7 : Int32)) 26 (0 : Int32)) 4)) fun r243 => some (r243.1, r243.2, eMA_199)) M' 3 fu 0 (M' 9) rfl (by omega)
  rw [vv_self, show nI 0 = (0 : Int32) from rfl] at e199
  rw [e199]
  have hall : f_X5_all (upd (upd (upd MI' 11 (MI' 15)) 1 ((upd MI' 11 (MI' 15)) 16)) 4 ((upd (upd MI' 11 (MI' 15)) 1 ((upd MI' 11 (MI' 15)) 16)) 17)) = some (nI (2 ^ g' 3 - 1)) := by
    unfold f_X5_all
    rw [uu_s, uu_n _ _ (show (17 : Nat) ≠ 1 by decide), uu_n _ _ (show (17 : Nat) ≠ 11 by decide), p4, all_eq w3]
  rw [hall]
  unfold f_X5_refused
  simp only [ibn]
  refine ⟨upd (upd (upd (upd (upd (upd (upd MI' 11 (MI' 15)) 1 ((upd MI' 11 (MI' 15)) 16)) 4 ((upd (upd MI' 11 (MI' 15)) 1 ((upd MI' 11 (MI' 15)) 16)) 17)) 10 (nI (2 ^ g' 3 - 1))) 12 (7 : Int32)) 26 (0 : Int32)) 0 0, va_up M' 9 (bz (fun _ => 0) (M' 9) 0 3), ?_, ⟨g', G', ⟨V, ⟨?_, ?_, ?_, ?_, ?_, ?_, ?_, fun p hp => ?_, fun k hk => ?_, fun c hc => ?_, fun x hx => ?_⟩, w', ?_, n3, ?_⟩, ?_, ?_, uu_s _ _ _⟩⟩
  · have e4 : (upd (upd (upd (upd (upd (upd MI' 11 (MI' 15)) 1 ((upd MI' 11 (MI' 15)) 16)) 4 ((upd (upd MI' 11 (MI' 15)) 1 ((upd MI' 11 (MI' 15)) 16)) 17)) 10 (nI (2 ^ g' 3 - 1))) 12 (7 : Int32)) 26 (0 : Int32)) 4 = nI (g' 3) := p4
    rw [e4]
  · exact p3
  · exact p4
  · show nI (2 ^ g' 3 - 1) = nI (g' 9)
    rw [n1]
  · show (7 : Int32) = nI (g' 10)
    rw [n2]
    rfl
  · exact p2
  · show MI' 13 = lowI (g' 12)
    rw [a 13 (by omega), vm.2.2.2.2.2.1, h12, n3]
  · show (0 : Int32) = nI (g' 13)
    rw [n4]
    rfl
  · rw [vv_n _ _ (show (2 : Nat) ≠ 9 by decide), vv_n _ _ (show (3 : Nat) ≠ 9 by decide), (hI.2 p (by omega)).1, (hI.2 p (by omega)).2.1]
    exact p5 p hp
  · have h := hI.2 k (by omega)
    have h' := p6 k hk
    rw [vv_n _ _ (show (5 : Nat) ≠ 9 by decide), vv_n _ _ (show (6 : Nat) ≠ 9 by decide), vv_n _ _ (show (7 : Nat) ≠ 9 by decide), vv_n _ _ (show (8 : Nat) ≠ 9 by decide), h.2.2.1, h.2.2.2.1, h.2.2.2.2.1, h.2.2.2.2.2, n5 k hk]
    exact ⟨h'.1, h'.2.1, h'.2.2, rfl⟩
  · rw [vv_s, bz_i _ _ (by omega), n6 c hc]
    rfl
  · rw [n4] at hx
    exact absurd hx (Nat.not_lt_zero _)
  · constructor
    · intro h; omega
    · intro h; omega
  · have := pw_pos (g' 3)
    omega
  · intro q hq
    rw [vv_n _ _ (show (29 : Nat) ≠ 9 by decide), vv_n _ _ (show (30 : Nat) ≠ 9 by decide), vv_n _ _ (show (31 : Nat) ≠ 9 by decide), hI.1 29 (by decide) (by decide) (by decide) (by decide) (by decide) (by decide), hI.1 30 (by decide) (by decide) (by decide) (by decide) (by decide) (by decide), hI.1 31 (by decide) (by decide) (by decide) (by decide) (by decide) (by decide)]
    exact RS_ag S aA q hq
  · show MI' 33 = tr
    rw [a 33 (by omega), t]
theorem e_frontier {qb qs qS : Nat → Nat} {fr : Option Nat} {rb rl ra : Int32} (h : RLw tr fa BI BA LN SZ CE MI MA) (h12 : SI 12 = -9) (a1 a2 a3 a4 : Int32) :
    (∃ r fa' fr' rb' rl' ra' SI' SA' MI' MA', f_X4_frontier qb qs qS fr rb rl ra SI SA LN SZ CE a1 a2 a3 a4 = some (r, fa', fr', rb', rl', ra', SI', SA', qb 0, qs 0) ∧ f_X5_frontier MI MA a1 a2 a3 a4 = some (r, MI', MA') ∧ SI' 12 = -9 ∧ RLw tr fa' BI BA LN SZ CE MI' MA') ∨
    (∃ r fa' fr' rb' rl' ra' SI' SA' MI' MA', f_X4_frontier qb qs qS fr rb rl ra SI SA LN SZ CE a1 a2 a3 a4 = some (r, fa', fr', rb', rl', ra', SI', SA', qs 0, qb 0) ∧ f_X5_frontier MI MA a1 a2 a3 a4 = some (r, MI', MA') ∧ RLw tr fa' SI' SA' LN SZ CE MI' MA') := by
  obtain ⟨g, G, R, S, t, f⟩ := h
  obtain ⟨vx, vm, w, r1, r2, r3⟩ := id R
  unfold f_X4_frontier f_X5_frontier jb_X4_frontier_48 jb_X4_frontier_67
  rcases x_ref a1 a2 with ⟨j, l, hj, hl, rfl, rfl, e1, e2, e3⟩ | ⟨e1, e2⟩ | ⟨e1, e2, e3⟩
  · rw [e1, e2, e3, s_cl (show j < 2147483648 by omega)]
    simp only [ibn, ↓reduceIte, i10, if_neg (gdc hj (by decide))]
    rcases cbar (MI := MI) S hj (nI l) a3 a4 with ⟨c1, c2⟩ | ⟨c1, c2⟩ | ⟨c1, c3, c2⟩ | ⟨c1, c3, c4, c2⟩ | ⟨c1, c4, c2, i, n, s, ei, en, hin, hs, es, hcs⟩
    · left
      rw [c1, c2]
      simp only [ibn, i10, ↓reduceIte, if_neg (show ¬ (0 : Int32) ≤ -11 by decide)]
      exact ⟨_, _, _, _, _, _, _, _, _, _, rfl, rfl, h12, RL_f R S t 1⟩
    · left
      rw [c1, c2]
      simp only [ibn, i10, ↓reduceIte, if_neg (show ¬ (0 : Int32) ≤ -12 by decide), if_neg (show ¬ (2 : Int32) = 0 by decide)]
      exact ⟨_, _, _, _, _, _, _, _, _, _, rfl, rfl, h12, RL_f R S t 2⟩
    · left
      rw [c1, c2]
      simp only [ibn, i10, ↓reduceIte, if_neg (show ¬ (0 : Int32) ≤ -14 by decide), if_neg (show ¬ (4 : Int32) = 0 by decide), if_neg (nle c3)]
      exact ⟨_, _, _, _, _, _, _, _, _, _, rfl, rfl, h12, RL_f R S t 4⟩
    · left
      have h0 : 0 ≤ a4 := by
        rw [Int32.lt_iff_toInt_lt] at c3
        rw [Int32.le_iff_toInt_le]
        omega
      rw [c1, c2, c4]
      simp only [ibn, i10, ↓reduceIte, if_neg (show ¬ (0 : Int32) ≤ -13 by decide), if_neg (show ¬ (3 : Int32) = 0 by decide), if_pos h0]
      exact ⟨_, _, _, _, _, _, _, _, _, _, rfl, rfl, h12, RL_f R S t 3⟩
    · subst ei
      subst en
      have h0 : 0 ≤ nI n := nI_pos' (by omega)
      rw [c1, c2, c4, es]
      simp only [ibn, i10, ↓reduceIte, if_pos h0, if_pos (show (0 : Int32) ≤ 0 by decide)]
      rw [li60, s_mul, s_add]
      rcases rf (a := qS j) (SA := SA) (MI := MI) (n := n) h12 hj hin hs hcs with ⟨x', SI', SA', MI', MA', hx', d1, d2, d3, d4, d5, d6⟩ | ⟨g', G', SI', SA', MI', MA', d1, d2, d3, d4, d5, d6, d7, d8, d9⟩
      · left
        rw [d1, d3]
        unfold f_X2_place f_X5_refused
        simp only [ibn, ↓reduceIte]
        rw [d4]
        exact ⟨_, _, _, _, _, _, _, _, _, _, rfl, rfl, d2, ⟨g, G, ⟨vx, VM_0 (VM_ag vm d5 d6) 0, w, r1, r2, r3⟩, RS_ag S d6, (d5 33 (by omega)).trans t, uu_s _ _ _⟩⟩
      · right
        rw [d1, d9]
        simp only [ibn, i10, ↓reduceIte]
        generalize hfu : 1000 = fu
        obtain ⟨MI2, MA2, k1, k2⟩ := m_take vm r2 S d2 d3 d4 d5 d6 d7 d8 t fu (by omega)
        rw [k1, d2.2.1]
        exact ⟨_, _, _, _, _, _, _, _, _, _, rfl, rfl, k2⟩
  · left
    rw [e1, e2]
    exact ⟨_, _, _, _, _, _, _, _, _, _, rfl, rfl, h12, RL_f R S t 0⟩
  · left
    rw [e1, e2, e3]
    exact ⟨_, _, _, _, _, _, _, _, _, _, rfl, rfl, h12, RL_f R S t 0⟩
end FR
