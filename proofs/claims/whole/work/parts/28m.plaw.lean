/-! the law's cases, one after another -/
def KK (kk : (Nat → Nat) → (Nat → Nat) → Int32 → Int32 → Option Nat → Int32 → Int32 → Int32 → Int32 → (Nat → Int32) → (Nat → Int32) → (Nat → Nat → Int32) → (Nat → Int32) → (Nat → Nat → Int32) → (Nat → Int32) → (Nat → Int32) → (Nat → Nat → Int32) → (Nat → Int32) → (Nat → Nat → Int32) → Option Unit) : Prop := ∀ (qb qs : Nat → Nat) (tr fa : Int32) (fr : Option Nat) (rb rl ra wl : Int32) (WS BI : Nat → Int32) (BA : Nat → Nat → Int32) (SI : Nat → Int32) (SA : Nat → Nat → Int32) (LN SZ : Nat → Int32) (CE : Nat → Nat → Int32) (MI : Nat → Int32) (MA : Nat → Nat → Int32), qb 0 ≠ qs 0 → SI 12 = -9 → RLw tr fa BI BA LN SZ CE MI MA → kk qb qs tr fa fr rb rl ra wl WS BI BA SI SA LN SZ CE MI MA = some ()
theorem lg_0 (r : Int64) : lg_cmp r r = 0 := (lg_cmp_eq r r).mpr rfl
theorem gd_i {x L d : Nat} (h : x + 6 ≤ L) (hL : L ≤ 3072) (hd : d < 6) : ¬ ((nI x + nI d) < 0 ∨ L ≤ (nI x + nI d).toNatClampNeg) := by
  rw [s_add, s_cl (by omega)]
  intro q
  rcases q with q | q
  · exact nI_pos (by omega) q
  · omega
theorem RLw_12 {tr fa : Int32} {BI : Nat → Int32} {BA : Nat → Nat → Int32} {LN SZ : Nat → Int32} {CE : Nat → Nat → Int32} {MI : Nat → Int32} {MA : Nat → Nat → Int32} (h : RLw tr fa BI BA LN SZ CE MI MA) : BI 12 = -9 := by
  obtain ⟨g, G, ⟨vx, vm, w, r1, r2, r3⟩, S, t, f⟩ := h
  rw [vx.2.2.2.2.2.1, r2]
  rfl
section LW
variable {kk : (Nat → Nat) → (Nat → Nat) → Int32 → Int32 → Option Nat → Int32 → Int32 → Int32 → Int32 → (Nat → Int32) → (Nat → Int32) → (Nat → Nat → Int32) → (Nat → Int32) → (Nat → Nat → Int32) → (Nat → Int32) → (Nat → Int32) → (Nat → Nat → Int32) → (Nat → Int32) → (Nat → Nat → Int32) → Option Unit} {L x : Nat} {sc : Nat → Int32} {qS qb qs : Nat → Nat} {tr fa : Int32} {fr : Option Nat} {rb rl ra wl : Int32} {WS BI : Nat → Int32} {BA : Nat → Nat → Int32} {SI : Nat → Int32} {SA : Nat → Nat → Int32} {LN SZ : Nat → Int32} {CE : Nat → Nat → Int32} {MI : Nat → Int32} {MA : Nat → Nat → Int32}
theorem l_0 (hx : x + 6 ≤ L) (hL : L ≤ 3072) (hk : KK kk) (hne : qb 0 ≠ qs 0) (h12 : SI 12 = -9) (h : RLw tr fa BI BA LN SZ CE MI MA) : lc_0 kk L sc qS (nI x) qb qs tr fa fr rb rl ra wl WS BI BA SI SA LN SZ CE MI MA = some () := by
  have g1 : ¬ ((nI x + (1 : Int32)) < 0 ∨ L ≤ (nI x + (1 : Int32)).toNatClampNeg) := gd_i (d := 1) hx hL (by decide)
  have g2 : ¬ ((nI x + (2 : Int32)) < 0 ∨ L ≤ (nI x + (2 : Int32)).toNatClampNeg) := gd_i (d := 2) hx hL (by decide)
  have g3 : ¬ ((nI x + (3 : Int32)) < 0 ∨ L ≤ (nI x + (3 : Int32)).toNatClampNeg) := gd_i (d := 3) hx hL (by decide)
  have g4 : ¬ ((nI x + (4 : Int32)) < 0 ∨ L ≤ (nI x + (4 : Int32)).toNatClampNeg) := gd_i (d := 4) hx hL (by decide)
  unfold lc_0
  simp only [if_neg g1, if_neg g2, if_neg g3, if_neg g4]
  rcases e_frontier (qb := qb) (qs := qs) (qS := qS) (fr := fr) (rb := rb) (rl := rl) (ra := ra) (SA := SA) h h12 (sc (nI x + (1 : Int32)).toNatClampNeg) (sc (nI x + (2 : Int32)).toNatClampNeg) (sc (nI x + (3 : Int32)).toNatClampNeg) (sc (nI x + (4 : Int32)).toNatClampNeg) with ⟨r, fa', fr', rb', rl', ra', SI', SA', MI', MA', e1, e2, e3, H⟩ | ⟨r, fa', fr', rb', rl', ra', SI', SA', MI', MA', e1, e2, H⟩
  · rw [e1]
    simp only [ibn]
    rw [e2]
    simp only [ibn, ↓reduceIte]
    rw [if_neg (fun q => hne q.1), if_pos ⟨trivial, trivial⟩]
    exact hk _ _ _ _ _ _ _ _ _ _ _ _ _ _ _ _ _ _ _ hne e3 H
  · rw [e1]
    simp only [ibn]
    rw [e2]
    simp only [ibn, ↓reduceIte]
    rw [if_pos ⟨trivial, trivial⟩]
    exact hk _ _ _ _ _ _ _ _ _ _ _ _ _ _ _ _ _ _ _ (Ne.symm hne) (RLw_12 h) H

theorem l_1 (hx : x + 6 ≤ L) (hL : L ≤ 3072) (hk : KK kk) (hne : qb 0 ≠ qs 0) (h12 : SI 12 = -9) (h : RLw tr fa BI BA LN SZ CE MI MA) : lc_1 kk L sc qS (nI x) qb qs tr fa fr rb rl ra wl WS BI BA SI SA LN SZ CE MI MA = some () := by
  have g1 : ¬ ((nI x + (1 : Int32)) < 0 ∨ L ≤ (nI x + (1 : Int32)).toNatClampNeg) := gd_i (d := 1) hx hL (by decide)
  have g2 : ¬ ((nI x + (2 : Int32)) < 0 ∨ L ≤ (nI x + (2 : Int32)).toNatClampNeg) := gd_i (d := 2) hx hL (by decide)
  unfold lc_1
  simp only [if_neg g1, if_neg g2]
  obtain ⟨r, e1, e2⟩ := e_ofPost h (sc (nI x + (1 : Int32)).toNatClampNeg) (sc (nI x + (2 : Int32)).toNatClampNeg)
  rw [e1]
  simp only [ibn]
  rw [e2]
  simp only [ibn, ↓reduceIte]
  exact hk _ _ _ _ _ _ _ _ _ _ _ _ _ _ _ _ _ _ _ hne h12 h

theorem l_2 (hx : x + 6 ≤ L) (hL : L ≤ 3072) (hk : KK kk) (hne : qb 0 ≠ qs 0) (h12 : SI 12 = -9) (h : RLw tr fa BI BA LN SZ CE MI MA) : lc_2 kk L sc qS (nI x) qb qs tr fa fr rb rl ra wl WS BI BA SI SA LN SZ CE MI MA = some () := by
  have g1 : ¬ ((nI x + (1 : Int32)) < 0 ∨ L ≤ (nI x + (1 : Int32)).toNatClampNeg) := gd_i (d := 1) hx hL (by decide)
  have g2 : ¬ ((nI x + (2 : Int32)) < 0 ∨ L ≤ (nI x + (2 : Int32)).toNatClampNeg) := gd_i (d := 2) hx hL (by decide)
  unfold lc_2
  simp only [if_neg g1, if_neg g2]
  obtain ⟨r, e1, e2⟩ := e_ofSilence h (sc (nI x + (1 : Int32)).toNatClampNeg) (sc (nI x + (2 : Int32)).toNatClampNeg)
  rw [e1]
  simp only [ibn]
  rw [e2]
  simp only [ibn, ↓reduceIte]
  exact hk _ _ _ _ _ _ _ _ _ _ _ _ _ _ _ _ _ _ _ hne h12 h

theorem l_8 (hx : x + 6 ≤ L) (hL : L ≤ 3072) (hk : KK kk) (hne : qb 0 ≠ qs 0) (h12 : SI 12 = -9) (h : RLw tr fa BI BA LN SZ CE MI MA) : lc_8 kk L sc qS (nI x) qb qs tr fa fr rb rl ra wl WS BI BA SI SA LN SZ CE MI MA = some () := by
  have g1 : ¬ ((nI x + (1 : Int32)) < 0 ∨ L ≤ (nI x + (1 : Int32)).toNatClampNeg) := gd_i (d := 1) hx hL (by decide)
  unfold lc_8
  simp only [if_neg g1]
  obtain ⟨r, e1, e2⟩ := e_duty h (sc (nI x + (1 : Int32)).toNatClampNeg)
  rw [e1]
  simp only [ibn]
  rw [e2]
  simp only [ibn, ↓reduceIte]
  exact hk _ _ _ _ _ _ _ _ _ _ _ _ _ _ _ _ _ _ _ hne h12 h

theorem l_32 (hx : x + 6 ≤ L) (hL : L ≤ 3072) (hk : KK kk) (hne : qb 0 ≠ qs 0) (h12 : SI 12 = -9) (h : RLw tr fa BI BA LN SZ CE MI MA) : lc_32 kk L sc qS (nI x) qb qs tr fa fr rb rl ra wl WS BI BA SI SA LN SZ CE MI MA = some () := by
  have g1 : ¬ ((nI x + (1 : Int32)) < 0 ∨ L ≤ (nI x + (1 : Int32)).toNatClampNeg) := gd_i (d := 1) hx hL (by decide)
  unfold lc_32
  simp only [if_neg g1]
  obtain ⟨r, e1, e2⟩ := e_many h (sc (nI x + (1 : Int32)).toNatClampNeg)
  rw [e1]
  simp only [ibn]
  rw [e2]
  simp only [ibn, ↓reduceIte]
  exact hk _ _ _ _ _ _ _ _ _ _ _ _ _ _ _ _ _ _ _ hne h12 h

theorem l_3 (hx : x + 6 ≤ L) (hL : L ≤ 3072) (hk : KK kk) (hne : qb 0 ≠ qs 0) (h12 : SI 12 = -9) (h : RLw tr fa BI BA LN SZ CE MI MA) : lc_3 kk L sc qS (nI x) qb qs tr fa fr rb rl ra wl WS BI BA SI SA LN SZ CE MI MA = some () := by
  have g1 : ¬ ((nI x + (1 : Int32)) < 0 ∨ L ≤ (nI x + (1 : Int32)).toNatClampNeg) := gd_i (d := 1) hx hL (by decide)
  unfold lc_3
  simp only [if_neg g1]
  obtain ⟨r, BI', MI', e1, e2, H⟩ := e_free h (sc (nI x + (1 : Int32)).toNatClampNeg)
  rw [e1]
  simp only [ibn]
  rw [e2]
  simp only [ibn, ↓reduceIte]
  exact hk _ _ _ _ _ _ _ _ _ _ _ _ _ _ _ _ _ _ _ hne h12 H

theorem l_4 (hx : x + 6 ≤ L) (hL : L ≤ 3072) (hk : KK kk) (hne : qb 0 ≠ qs 0) (h12 : SI 12 = -9) (h : RLw tr fa BI BA LN SZ CE MI MA) : lc_4 kk L sc qS (nI x) qb qs tr fa fr rb rl ra wl WS BI BA SI SA LN SZ CE MI MA = some () := by
  have g1 : ¬ ((nI x + (1 : Int32)) < 0 ∨ L ≤ (nI x + (1 : Int32)).toNatClampNeg) := gd_i (d := 1) hx hL (by decide)
  unfold lc_4
  simp only [if_neg g1]
  obtain ⟨r, BI', MI', e1, e2, H⟩ := e_law h (sc (nI x + (1 : Int32)).toNatClampNeg)
  rw [e1]
  simp only [ibn]
  rw [e2]
  simp only [ibn, ↓reduceIte]
  exact hk _ _ _ _ _ _ _ _ _ _ _ _ _ _ _ _ _ _ _ hne h12 H

theorem l_16 (hx : x + 6 ≤ L) (hL : L ≤ 3072) (hk : KK kk) (hne : qb 0 ≠ qs 0) (h12 : SI 12 = -9) (h : RLw tr fa BI BA LN SZ CE MI MA) : lc_16 kk L sc qS (nI x) qb qs tr fa fr rb rl ra wl WS BI BA SI SA LN SZ CE MI MA = some () := by
  have g1 : ¬ ((nI x + (1 : Int32)) < 0 ∨ L ≤ (nI x + (1 : Int32)).toNatClampNeg) := gd_i (d := 1) hx hL (by decide)
  unfold lc_16
  simp only [if_neg g1]
  obtain ⟨r, BI', MI', e1, e2, H⟩ := e_back h (sc (nI x + (1 : Int32)).toNatClampNeg)
  rw [e1]
  simp only [ibn]
  rw [e2]
  simp only [ibn, ↓reduceIte]
  exact hk _ _ _ _ _ _ _ _ _ _ _ _ _ _ _ _ _ _ _ hne h12 H

theorem l_5 (hx : x + 6 ≤ L) (hL : L ≤ 3072) (hk : KK kk) (hne : qb 0 ≠ qs 0) (h12 : SI 12 = -9) (h : RLw tr fa BI BA LN SZ CE MI MA) : lc_5 kk L sc qS (nI x) qb qs tr fa fr rb rl ra wl WS BI BA SI SA LN SZ CE MI MA = some () := by
  have g1 : ¬ ((nI x + (1 : Int32)) < 0 ∨ L ≤ (nI x + (1 : Int32)).toNatClampNeg) := gd_i (d := 1) hx hL (by decide)
  have g2 : ¬ ((nI x + (2 : Int32)) < 0 ∨ L ≤ (nI x + (2 : Int32)).toNatClampNeg) := gd_i (d := 2) hx hL (by decide)
  unfold lc_5
  simp only [if_neg g1, if_neg g2]
  obtain ⟨r, BA', MA', e1, e2, H⟩ := e_carry h (sc (nI x + (1 : Int32)).toNatClampNeg) (sc (nI x + (2 : Int32)).toNatClampNeg)
  rw [e1]
  simp only [ibn]
  rw [e2]
  simp only [ibn, ↓reduceIte]
  exact hk _ _ _ _ _ _ _ _ _ _ _ _ _ _ _ _ _ _ _ hne h12 H

theorem l_7 (hx : x + 6 ≤ L) (hL : L ≤ 3072) (hk : KK kk) (hne : qb 0 ≠ qs 0) (h12 : SI 12 = -9) (h : RLw tr fa BI BA LN SZ CE MI MA) : lc_7 kk L sc qS (nI x) qb qs tr fa fr rb rl ra wl WS BI BA SI SA LN SZ CE MI MA = some () := by
  have g1 : ¬ ((nI x + (1 : Int32)) < 0 ∨ L ≤ (nI x + (1 : Int32)).toNatClampNeg) := gd_i (d := 1) hx hL (by decide)
  have g2 : ¬ ((nI x + (2 : Int32)) < 0 ∨ L ≤ (nI x + (2 : Int32)).toNatClampNeg) := gd_i (d := 2) hx hL (by decide)
  unfold lc_7
  simp only [if_neg g1, if_neg g2]
  obtain ⟨r, BA', MA', e1, e2, H⟩ := e_hum h (sc (nI x + (1 : Int32)).toNatClampNeg) (sc (nI x + (2 : Int32)).toNatClampNeg)
  rw [e1]
  simp only [ibn]
  rw [e2]
  simp only [ibn, ↓reduceIte]
  exact hk _ _ _ _ _ _ _ _ _ _ _ _ _ _ _ _ _ _ _ hne h12 H

theorem l_6 (hx : x + 6 ≤ L) (hL : L ≤ 3072) (hk : KK kk) (hne : qb 0 ≠ qs 0) (h12 : SI 12 = -9) (h : RLw tr fa BI BA LN SZ CE MI MA) : lc_6 kk L sc qS (nI x) qb qs tr fa fr rb rl ra wl WS BI BA SI SA LN SZ CE MI MA = some () := by
  have g1 : ¬ ((nI x + (1 : Int32)) < 0 ∨ L ≤ (nI x + (1 : Int32)).toNatClampNeg) := gd_i (d := 1) hx hL (by decide)
  have g2 : ¬ ((nI x + (2 : Int32)) < 0 ∨ L ≤ (nI x + (2 : Int32)).toNatClampNeg) := gd_i (d := 2) hx hL (by decide)
  unfold lc_6
  simp only [if_neg g1, if_neg g2]
  by_cases q : (sc (nI x + (2 : Int32)).toNatClampNeg) = 0
  · simp only [if_pos q]
    obtain ⟨r, BI', MI', e1, e2, H⟩ := e_declare h (sc (nI x + (1 : Int32)).toNatClampNeg) 0 (Or.inl rfl)
    rw [e1]
    simp only [ibn]
    rw [e2]
    simp only [ibn, ↓reduceIte]
    exact hk _ _ _ _ _ _ _ _ _ _ _ _ _ _ _ _ _ _ _ hne h12 H
  · simp only [if_neg q]
    obtain ⟨r, BI', MI', e1, e2, H⟩ := e_declare h (sc (nI x + (1 : Int32)).toNatClampNeg) 1 (Or.inr rfl)
    rw [e1]
    simp only [ibn]
    rw [e2]
    simp only [ibn, ↓reduceIte]
    exact hk _ _ _ _ _ _ _ _ _ _ _ _ _ _ _ _ _ _ _ hne h12 H

theorem l_9 (hx : x + 6 ≤ L) (hL : L ≤ 3072) (hk : KK kk) (hne : qb 0 ≠ qs 0) (h12 : SI 12 = -9) (h : RLw tr fa BI BA LN SZ CE MI MA) : lc_9 kk L sc qS (nI x) qb qs tr fa fr rb rl ra wl WS BI BA SI SA LN SZ CE MI MA = some () := by
  have g1 : ¬ ((nI x + (1 : Int32)) < 0 ∨ L ≤ (nI x + (1 : Int32)).toNatClampNeg) := gd_i (d := 1) hx hL (by decide)
  have g2 : ¬ ((nI x + (2 : Int32)) < 0 ∨ L ≤ (nI x + (2 : Int32)).toNatClampNeg) := gd_i (d := 2) hx hL (by decide)
  unfold lc_9
  simp only [if_neg g1, if_neg g2]
  have H := h
  obtain ⟨g, G, R, S, t, f⟩ := h
  obtain ⟨vx, vm, w, -⟩ := id R
  obtain ⟨r, e1, e2⟩ := e_clear vx vm w (sc (nI x + (1 : Int32)).toNatClampNeg) (sc (nI x + (2 : Int32)).toNatClampNeg)
  rw [e1]
  simp only [ibn]
  rw [e2]
  simp only [ibn, if_pos (lg_0 _)]
  exact hk _ _ _ _ _ _ _ _ _ _ _ _ _ _ _ _ _ _ _ hne h12 H

theorem l_10 (hx : x + 6 ≤ L) (hL : L ≤ 3072) (hk : KK kk) (hne : qb 0 ≠ qs 0) (h12 : SI 12 = -9) (h : RLw tr fa BI BA LN SZ CE MI MA) : lc_10 kk L sc qS (nI x) qb qs tr fa fr rb rl ra wl WS BI BA SI SA LN SZ CE MI MA = some () := by
  have g1 : ¬ ((nI x + (1 : Int32)) < 0 ∨ L ≤ (nI x + (1 : Int32)).toNatClampNeg) := gd_i (d := 1) hx hL (by decide)
  have g2 : ¬ ((nI x + (2 : Int32)) < 0 ∨ L ≤ (nI x + (2 : Int32)).toNatClampNeg) := gd_i (d := 2) hx hL (by decide)
  have g3 : ¬ ((nI x + (3 : Int32)) < 0 ∨ L ≤ (nI x + (3 : Int32)).toNatClampNeg) := gd_i (d := 3) hx hL (by decide)
  have g4 : ¬ ((nI x + (4 : Int32)) < 0 ∨ L ≤ (nI x + (4 : Int32)).toNatClampNeg) := gd_i (d := 4) hx hL (by decide)
  have g5 : ¬ ((nI x + (5 : Int32)) < 0 ∨ L ≤ (nI x + (5 : Int32)).toNatClampNeg) := gd_i (d := 5) hx hL (by decide)
  unfold lc_10
  simp only [if_neg g1, if_neg g2, if_neg g3, if_neg g4, if_neg g5]
  have H := h
  obtain ⟨g, G, R, S, t, f⟩ := h
  obtain ⟨vx, vm, w, -⟩ := id R
  obtain ⟨r, fa', wl', WS', MI', MA', e1, e2, H'⟩ := e_cost (wl := wl) (WS := WS) R S t (sc (nI x + (1 : Int32)).toNatClampNeg) (sc (nI x + (2 : Int32)).toNatClampNeg) (sc (nI x + (3 : Int32)).toNatClampNeg) (sc (nI x + (4 : Int32)).toNatClampNeg) (sc (nI x + (5 : Int32)).toNatClampNeg)
  rw [e1]
  simp only [ibn]
  rw [e2]
  simp only [ibn, if_pos (lg_0 _)]
  exact hk _ _ _ _ _ _ _ _ _ _ _ _ _ _ _ _ _ _ _ hne h12 H'

theorem l_11 (hx : x + 6 ≤ L) (hL : L ≤ 3072) (hk : KK kk) (hne : qb 0 ≠ qs 0) (h12 : SI 12 = -9) (h : RLw tr fa BI BA LN SZ CE MI MA) : lc_11 kk L sc qS (nI x) qb qs tr fa fr rb rl ra wl WS BI BA SI SA LN SZ CE MI MA = some () := by
  have g1 : ¬ ((nI x + (1 : Int32)) < 0 ∨ L ≤ (nI x + (1 : Int32)).toNatClampNeg) := gd_i (d := 1) hx hL (by decide)
  have g2 : ¬ ((nI x + (2 : Int32)) < 0 ∨ L ≤ (nI x + (2 : Int32)).toNatClampNeg) := gd_i (d := 2) hx hL (by decide)
  have g3 : ¬ ((nI x + (3 : Int32)) < 0 ∨ L ≤ (nI x + (3 : Int32)).toNatClampNeg) := gd_i (d := 3) hx hL (by decide)
  have g4 : ¬ ((nI x + (4 : Int32)) < 0 ∨ L ≤ (nI x + (4 : Int32)).toNatClampNeg) := gd_i (d := 4) hx hL (by decide)
  unfold lc_11
  simp only [if_neg g1, if_neg g2, if_neg g3, if_neg g4]
  have H := h
  obtain ⟨g, G, R, S, t, f⟩ := h
  obtain ⟨vx, vm, w, -⟩ := id R
  obtain ⟨r, fa', wl', WS', MI', MA', e1, e2, H'⟩ := e_say (wl := wl) (WS := WS) R S t (sc (nI x + (1 : Int32)).toNatClampNeg) (sc (nI x + (2 : Int32)).toNatClampNeg) (sc (nI x + (3 : Int32)).toNatClampNeg) (sc (nI x + (4 : Int32)).toNatClampNeg)
  rw [e1]
  simp only [ibn]
  rw [e2]
  simp only [ibn, ↓reduceIte]
  exact hk _ _ _ _ _ _ _ _ _ _ _ _ _ _ _ _ _ _ _ hne h12 H'

theorem l_12 (hx : x + 6 ≤ L) (hL : L ≤ 3072) (hk : KK kk) (hne : qb 0 ≠ qs 0) (h12 : SI 12 = -9) (h : RLw tr fa BI BA LN SZ CE MI MA) : lc_12 kk L sc qS (nI x) qb qs tr fa fr rb rl ra wl WS BI BA SI SA LN SZ CE MI MA = some () := by
  have g1 : ¬ ((nI x + (1 : Int32)) < 0 ∨ L ≤ (nI x + (1 : Int32)).toNatClampNeg) := gd_i (d := 1) hx hL (by decide)
  unfold lc_12
  simp only [if_neg g1]
  obtain ⟨r, MA', e1, e2, H⟩ := e_pack h (sc (nI x + (1 : Int32)).toNatClampNeg)
  rw [e1]
  simp only [ibn]
  rw [e2]
  simp only [ibn, ↓reduceIte]
  exact hk _ _ _ _ _ _ _ _ _ _ _ _ _ _ _ _ _ _ _ hne h12 H

theorem l_13 (hx : x + 6 ≤ L) (hL : L ≤ 3072) (hk : KK kk) (hne : qb 0 ≠ qs 0) (h12 : SI 12 = -9) (h : RLw tr fa BI BA LN SZ CE MI MA) : lc_13 kk L sc qS (nI x) qb qs tr fa fr rb rl ra wl WS BI BA SI SA LN SZ CE MI MA = some () := by
  unfold lc_13
  have H := h
  obtain ⟨g, G, R, S, t, f⟩ := h
  obtain ⟨vx, vm, w, -⟩ := id R
  obtain ⟨r, wl', WS', z, e1, e2⟩ := e_road (wl := wl) (WS := WS) R
  rw [e1]
  simp only [ibn]
  rw [e2]
  simp only [ibn, ↓reduceIte]
  exact hk _ _ _ _ _ _ _ _ _ _ _ _ _ _ _ _ _ _ _ hne h12 ⟨g, G, RB_z R z, RS_o S (by decide) (by decide) (by decide) z, t, f⟩

theorem l_14 (hx : x + 6 ≤ L) (hL : L ≤ 3072) (hk : KK kk) (hne : qb 0 ≠ qs 0) (h12 : SI 12 = -9) (h : RLw tr fa BI BA LN SZ CE MI MA) : lc_14 kk L sc qS (nI x) qb qs tr fa fr rb rl ra wl WS BI BA SI SA LN SZ CE MI MA = some () := by
  have g1 : ¬ ((nI x + (1 : Int32)) < 0 ∨ L ≤ (nI x + (1 : Int32)).toNatClampNeg) := gd_i (d := 1) hx hL (by decide)
  have g2 : ¬ ((nI x + (2 : Int32)) < 0 ∨ L ≤ (nI x + (2 : Int32)).toNatClampNeg) := gd_i (d := 2) hx hL (by decide)
  have g3 : ¬ ((nI x + (3 : Int32)) < 0 ∨ L ≤ (nI x + (3 : Int32)).toNatClampNeg) := gd_i (d := 3) hx hL (by decide)
  have g4 : ¬ ((nI x + (4 : Int32)) < 0 ∨ L ≤ (nI x + (4 : Int32)).toNatClampNeg) := gd_i (d := 4) hx hL (by decide)
  have g5 : ¬ ((nI x + (5 : Int32)) < 0 ∨ L ≤ (nI x + (5 : Int32)).toNatClampNeg) := gd_i (d := 5) hx hL (by decide)
  unfold lc_14
  simp only [if_neg g1, if_neg g2, if_neg g3, if_neg g4, if_neg g5]
  have H := h
  obtain ⟨g, G, R, S, t, f⟩ := h
  obtain ⟨vx, vm, w, -⟩ := id R
  obtain ⟨r, fa', wl', WS', MI', MA', e1, e2, H'⟩ := e_worth (wl := wl) (WS := WS) R S t (sc (nI x + (1 : Int32)).toNatClampNeg) (sc (nI x + (2 : Int32)).toNatClampNeg) (sc (nI x + (3 : Int32)).toNatClampNeg) (sc (nI x + (4 : Int32)).toNatClampNeg) (sc (nI x + (5 : Int32)).toNatClampNeg)
  rw [e1]
  simp only [ibn]
  rw [e2]
  simp only [ibn, if_pos (lg_0 _)]
  exact hk _ _ _ _ _ _ _ _ _ _ _ _ _ _ _ _ _ _ _ hne h12 H'

theorem l_15 (hx : x + 6 ≤ L) (hL : L ≤ 3072) (hk : KK kk) (hne : qb 0 ≠ qs 0) (h12 : SI 12 = -9) (h : RLw tr fa BI BA LN SZ CE MI MA) : lc_15 kk L sc qS (nI x) qb qs tr fa fr rb rl ra wl WS BI BA SI SA LN SZ CE MI MA = some () := by
  have g1 : ¬ ((nI x + (1 : Int32)) < 0 ∨ L ≤ (nI x + (1 : Int32)).toNatClampNeg) := gd_i (d := 1) hx hL (by decide)
  have g2 : ¬ ((nI x + (2 : Int32)) < 0 ∨ L ≤ (nI x + (2 : Int32)).toNatClampNeg) := gd_i (d := 2) hx hL (by decide)
  unfold lc_15
  simp only [if_neg g1, if_neg g2]
  obtain ⟨r, BI', BA', MI', MA', e1, e2, H⟩ := e_reading h (sc (nI x + (1 : Int32)).toNatClampNeg) (sc (nI x + (2 : Int32)).toNatClampNeg)
  rw [e1]
  simp only [ibn]
  rw [e2]
  simp only [ibn, ↓reduceIte]
  exact hk _ _ _ _ _ _ _ _ _ _ _ _ _ _ _ _ _ _ _ hne h12 H

theorem l_17 (hx : x + 6 ≤ L) (hL : L ≤ 3072) (hk : KK kk) (hne : qb 0 ≠ qs 0) (h12 : SI 12 = -9) (h : RLw tr fa BI BA LN SZ CE MI MA) : lc_17 kk L sc qS (nI x) qb qs tr fa fr rb rl ra wl WS BI BA SI SA LN SZ CE MI MA = some () := by
  have g1 : ¬ ((nI x + (1 : Int32)) < 0 ∨ L ≤ (nI x + (1 : Int32)).toNatClampNeg) := gd_i (d := 1) hx hL (by decide)
  unfold lc_17
  simp only [if_neg g1]
  obtain ⟨r, e1, e2⟩ := e_said h (sc (nI x + (1 : Int32)).toNatClampNeg)
  rw [e1]
  simp only [ibn]
  rw [e2]
  simp only [ibn, ↓reduceIte]
  exact hk _ _ _ _ _ _ _ _ _ _ _ _ _ _ _ _ _ _ _ hne h12 h

theorem l_18 (hx : x + 6 ≤ L) (hL : L ≤ 3072) (hk : KK kk) (hne : qb 0 ≠ qs 0) (h12 : SI 12 = -9) (h : RLw tr fa BI BA LN SZ CE MI MA) : lc_18 kk L sc qS (nI x) qb qs tr fa fr rb rl ra wl WS BI BA SI SA LN SZ CE MI MA = some () := by
  unfold lc_18
  obtain ⟨r, e1, e2⟩ := e_frees h
  rw [e1]
  simp only [ibn]
  rw [e2]
  simp only [ibn, ↓reduceIte]
  exact hk _ _ _ _ _ _ _ _ _ _ _ _ _ _ _ _ _ _ _ hne h12 h

theorem l_19 (hx : x + 6 ≤ L) (hL : L ≤ 3072) (hk : KK kk) (hne : qb 0 ≠ qs 0) (h12 : SI 12 = -9) (h : RLw tr fa BI BA LN SZ CE MI MA) : lc_19 kk L sc qS (nI x) qb qs tr fa fr rb rl ra wl WS BI BA SI SA LN SZ CE MI MA = some () := by
  unfold lc_19
  obtain ⟨r, e1, e2⟩ := e_laws h
  rw [e1]
  simp only [ibn]
  rw [e2]
  simp only [ibn, ↓reduceIte]
  exact hk _ _ _ _ _ _ _ _ _ _ _ _ _ _ _ _ _ _ _ hne h12 h

theorem l_20 (hx : x + 6 ≤ L) (hL : L ≤ 3072) (hk : KK kk) (hne : qb 0 ≠ qs 0) (h12 : SI 12 = -9) (h : RLw tr fa BI BA LN SZ CE MI MA) : lc_20 kk L sc qS (nI x) qb qs tr fa fr rb rl ra wl WS BI BA SI SA LN SZ CE MI MA = some () := by
  have g1 : ¬ ((nI x + (1 : Int32)) < 0 ∨ L ≤ (nI x + (1 : Int32)).toNatClampNeg) := gd_i (d := 1) hx hL (by decide)
  unfold lc_20
  simp only [if_neg g1]
  obtain ⟨r, e1, e2⟩ := e_kinds h (sc (nI x + (1 : Int32)).toNatClampNeg)
  rw [e1]
  simp only [ibn]
  rw [e2]
  simp only [ibn, ↓reduceIte]
  exact hk _ _ _ _ _ _ _ _ _ _ _ _ _ _ _ _ _ _ _ hne h12 h

theorem l_21 (hx : x + 6 ≤ L) (hL : L ≤ 3072) (hk : KK kk) (hne : qb 0 ≠ qs 0) (h12 : SI 12 = -9) (h : RLw tr fa BI BA LN SZ CE MI MA) : lc_21 kk L sc qS (nI x) qb qs tr fa fr rb rl ra wl WS BI BA SI SA LN SZ CE MI MA = some () := by
  have g1 : ¬ ((nI x + (1 : Int32)) < 0 ∨ L ≤ (nI x + (1 : Int32)).toNatClampNeg) := gd_i (d := 1) hx hL (by decide)
  have g2 : ¬ ((nI x + (2 : Int32)) < 0 ∨ L ≤ (nI x + (2 : Int32)).toNatClampNeg) := gd_i (d := 2) hx hL (by decide)
  have g3 : ¬ ((nI x + (3 : Int32)) < 0 ∨ L ≤ (nI x + (3 : Int32)).toNatClampNeg) := gd_i (d := 3) hx hL (by decide)
  unfold lc_21
  simp only [if_neg g1, if_neg g2, if_neg g3]
  have H := h
  obtain ⟨g, G, R, S, t, f⟩ := h
  obtain ⟨vx, vm, w, -⟩ := id R
  obtain ⟨r, e1, e2⟩ := e_odds vx vm w (sc (nI x + (1 : Int32)).toNatClampNeg) (sc (nI x + (2 : Int32)).toNatClampNeg) (sc (nI x + (3 : Int32)).toNatClampNeg)
  rw [e1]
  simp only [ibn]
  rw [e2]
  simp only [ibn, if_pos (lg_0 _)]
  exact hk _ _ _ _ _ _ _ _ _ _ _ _ _ _ _ _ _ _ _ hne h12 H

theorem l_22 (hx : x + 6 ≤ L) (hL : L ≤ 3072) (hk : KK kk) (hne : qb 0 ≠ qs 0) (h12 : SI 12 = -9) (h : RLw tr fa BI BA LN SZ CE MI MA) : lc_22 kk L sc qS (nI x) qb qs tr fa fr rb rl ra wl WS BI BA SI SA LN SZ CE MI MA = some () := by
  have g1 : ¬ ((nI x + (1 : Int32)) < 0 ∨ L ≤ (nI x + (1 : Int32)).toNatClampNeg) := gd_i (d := 1) hx hL (by decide)
  have g2 : ¬ ((nI x + (2 : Int32)) < 0 ∨ L ≤ (nI x + (2 : Int32)).toNatClampNeg) := gd_i (d := 2) hx hL (by decide)
  have g3 : ¬ ((nI x + (3 : Int32)) < 0 ∨ L ≤ (nI x + (3 : Int32)).toNatClampNeg) := gd_i (d := 3) hx hL (by decide)
  unfold lc_22
  simp only [if_neg g1, if_neg g2, if_neg g3]
  obtain ⟨r, fa', LN', SZ', CE', MI', MA', e1, e2, H⟩ := e_sheet h (sc (nI x + (1 : Int32)).toNatClampNeg) (sc (nI x + (2 : Int32)).toNatClampNeg) (sc (nI x + (3 : Int32)).toNatClampNeg)
  rw [e1]
  simp only [ibn]
  rw [e2]
  simp only [ibn, ↓reduceIte]
  exact hk _ _ _ _ _ _ _ _ _ _ _ _ _ _ _ _ _ _ _ hne h12 H

theorem l_23 (hx : x + 6 ≤ L) (hL : L ≤ 3072) (hk : KK kk) (hne : qb 0 ≠ qs 0) (h12 : SI 12 = -9) (h : RLw tr fa BI BA LN SZ CE MI MA) : lc_23 kk L sc qS (nI x) qb qs tr fa fr rb rl ra wl WS BI BA SI SA LN SZ CE MI MA = some () := by
  have g1 : ¬ ((nI x + (1 : Int32)) < 0 ∨ L ≤ (nI x + (1 : Int32)).toNatClampNeg) := gd_i (d := 1) hx hL (by decide)
  unfold lc_23
  simp only [if_neg g1]
  obtain ⟨r, LN', SZ', MA', e1, e2, H⟩ := e_lose h (sc (nI x + (1 : Int32)).toNatClampNeg)
  rw [e1]
  simp only [ibn]
  rw [e2]
  simp only [ibn, ↓reduceIte]
  exact hk _ _ _ _ _ _ _ _ _ _ _ _ _ _ _ _ _ _ _ hne h12 H

theorem l_24 (hx : x + 6 ≤ L) (hL : L ≤ 3072) (hk : KK kk) (hne : qb 0 ≠ qs 0) (h12 : SI 12 = -9) (h : RLw tr fa BI BA LN SZ CE MI MA) : lc_24 kk L sc qS (nI x) qb qs tr fa fr rb rl ra wl WS BI BA SI SA LN SZ CE MI MA = some () := by
  have g1 : ¬ ((nI x + (1 : Int32)) < 0 ∨ L ≤ (nI x + (1 : Int32)).toNatClampNeg) := gd_i (d := 1) hx hL (by decide)
  have g2 : ¬ ((nI x + (2 : Int32)) < 0 ∨ L ≤ (nI x + (2 : Int32)).toNatClampNeg) := gd_i (d := 2) hx hL (by decide)
  have g3 : ¬ ((nI x + (3 : Int32)) < 0 ∨ L ≤ (nI x + (3 : Int32)).toNatClampNeg) := gd_i (d := 3) hx hL (by decide)
  unfold lc_24
  simp only [if_neg g1, if_neg g2, if_neg g3]
  obtain ⟨r, fa', CE', MI', MA', e1, e2, H⟩ := e_put h (sc (nI x + (1 : Int32)).toNatClampNeg) (sc (nI x + (2 : Int32)).toNatClampNeg) (sc (nI x + (3 : Int32)).toNatClampNeg)
  rw [e1]
  simp only [ibn]
  rw [e2]
  simp only [ibn, ↓reduceIte]
  exact hk _ _ _ _ _ _ _ _ _ _ _ _ _ _ _ _ _ _ _ hne h12 H

theorem l_25 (hx : x + 6 ≤ L) (hL : L ≤ 3072) (hk : KK kk) (hne : qb 0 ≠ qs 0) (h12 : SI 12 = -9) (h : RLw tr fa BI BA LN SZ CE MI MA) : lc_25 kk L sc qS (nI x) qb qs tr fa fr rb rl ra wl WS BI BA SI SA LN SZ CE MI MA = some () := by
  have g1 : ¬ ((nI x + (1 : Int32)) < 0 ∨ L ≤ (nI x + (1 : Int32)).toNatClampNeg) := gd_i (d := 1) hx hL (by decide)
  have g2 : ¬ ((nI x + (2 : Int32)) < 0 ∨ L ≤ (nI x + (2 : Int32)).toNatClampNeg) := gd_i (d := 2) hx hL (by decide)
  have g3 : ¬ ((nI x + (3 : Int32)) < 0 ∨ L ≤ (nI x + (3 : Int32)).toNatClampNeg) := gd_i (d := 3) hx hL (by decide)
  unfold lc_25
  simp only [if_neg g1, if_neg g2, if_neg g3]
  obtain ⟨r, fa', MI', e1, e2, H⟩ := e_cell h (sc (nI x + (1 : Int32)).toNatClampNeg) (sc (nI x + (2 : Int32)).toNatClampNeg) (sc (nI x + (3 : Int32)).toNatClampNeg)
  rw [e1]
  simp only [ibn]
  rw [e2]
  simp only [ibn, if_pos (lg_0 _)]
  exact hk _ _ _ _ _ _ _ _ _ _ _ _ _ _ _ _ _ _ _ hne h12 H

theorem l_26 (hx : x + 6 ≤ L) (hL : L ≤ 3072) (hk : KK kk) (hne : qb 0 ≠ qs 0) (h12 : SI 12 = -9) (h : RLw tr fa BI BA LN SZ CE MI MA) : lc_26 kk L sc qS (nI x) qb qs tr fa fr rb rl ra wl WS BI BA SI SA LN SZ CE MI MA = some () := by
  have g1 : ¬ ((nI x + (1 : Int32)) < 0 ∨ L ≤ (nI x + (1 : Int32)).toNatClampNeg) := gd_i (d := 1) hx hL (by decide)
  have g2 : ¬ ((nI x + (2 : Int32)) < 0 ∨ L ≤ (nI x + (2 : Int32)).toNatClampNeg) := gd_i (d := 2) hx hL (by decide)
  have g3 : ¬ ((nI x + (3 : Int32)) < 0 ∨ L ≤ (nI x + (3 : Int32)).toNatClampNeg) := gd_i (d := 3) hx hL (by decide)
  have g4 : ¬ ((nI x + (4 : Int32)) < 0 ∨ L ≤ (nI x + (4 : Int32)).toNatClampNeg) := gd_i (d := 4) hx hL (by decide)
  have g5 : ¬ ((nI x + (5 : Int32)) < 0 ∨ L ≤ (nI x + (5 : Int32)).toNatClampNeg) := gd_i (d := 5) hx hL (by decide)
  unfold lc_26
  simp only [if_neg g1, if_neg g2, if_neg g3, if_neg g4, if_neg g5]
  obtain ⟨r, fa', CE', MI', MA', e1, e2, H⟩ := e_copy h (sc (nI x + (1 : Int32)).toNatClampNeg) (sc (nI x + (2 : Int32)).toNatClampNeg) (sc (nI x + (3 : Int32)).toNatClampNeg) (sc (nI x + (4 : Int32)).toNatClampNeg) (sc (nI x + (5 : Int32)).toNatClampNeg)
  rw [e1]
  simp only [ibn]
  rw [e2]
  simp only [ibn, ↓reduceIte]
  exact hk _ _ _ _ _ _ _ _ _ _ _ _ _ _ _ _ _ _ _ hne h12 H

theorem l_27 (hx : x + 6 ≤ L) (hL : L ≤ 3072) (hk : KK kk) (hne : qb 0 ≠ qs 0) (h12 : SI 12 = -9) (h : RLw tr fa BI BA LN SZ CE MI MA) : lc_27 kk L sc qS (nI x) qb qs tr fa fr rb rl ra wl WS BI BA SI SA LN SZ CE MI MA = some () := by
  have g1 : ¬ ((nI x + (1 : Int32)) < 0 ∨ L ≤ (nI x + (1 : Int32)).toNatClampNeg) := gd_i (d := 1) hx hL (by decide)
  unfold lc_27
  simp only [if_neg g1]
  obtain ⟨r, tr', MI', e1, e2, H⟩ := e_tell h (sc (nI x + (1 : Int32)).toNatClampNeg)
  rw [e1]
  simp only [ibn]
  rw [e2]
  simp only [ibn, ↓reduceIte]
  exact hk _ _ _ _ _ _ _ _ _ _ _ _ _ _ _ _ _ _ _ hne h12 H

theorem l_28 (hx : x + 6 ≤ L) (hL : L ≤ 3072) (hk : KK kk) (hne : qb 0 ≠ qs 0) (h12 : SI 12 = -9) (h : RLw tr fa BI BA LN SZ CE MI MA) : lc_28 kk L sc qS (nI x) qb qs tr fa fr rb rl ra wl WS BI BA SI SA LN SZ CE MI MA = some () := by
  have g1 : ¬ ((nI x + (1 : Int32)) < 0 ∨ L ≤ (nI x + (1 : Int32)).toNatClampNeg) := gd_i (d := 1) hx hL (by decide)
  unfold lc_28
  simp only [if_neg g1]
  obtain ⟨r, tr', MI', e1, e2, H⟩ := e_hush h (sc (nI x + (1 : Int32)).toNatClampNeg)
  rw [e1]
  simp only [ibn]
  rw [e2]
  simp only [ibn, ↓reduceIte]
  exact hk _ _ _ _ _ _ _ _ _ _ _ _ _ _ _ _ _ _ _ hne h12 H

theorem l_29 (hx : x + 6 ≤ L) (hL : L ≤ 3072) (hk : KK kk) (hne : qb 0 ≠ qs 0) (h12 : SI 12 = -9) (h : RLw tr fa BI BA LN SZ CE MI MA) : lc_29 kk L sc qS (nI x) qb qs tr fa fr rb rl ra wl WS BI BA SI SA LN SZ CE MI MA = some () := by
  have g1 : ¬ ((nI x + (1 : Int32)) < 0 ∨ L ≤ (nI x + (1 : Int32)).toNatClampNeg) := gd_i (d := 1) hx hL (by decide)
  have g2 : ¬ ((nI x + (2 : Int32)) < 0 ∨ L ≤ (nI x + (2 : Int32)).toNatClampNeg) := gd_i (d := 2) hx hL (by decide)
  unfold lc_29
  simp only [if_neg g1, if_neg g2]
  obtain ⟨r, fa', MI', e1, e2, H⟩ := e_as h (sc (nI x + (1 : Int32)).toNatClampNeg) (sc (nI x + (2 : Int32)).toNatClampNeg)
  rw [e1]
  simp only [ibn]
  rw [e2]
  simp only [ibn, ↓reduceIte]
  exact hk _ _ _ _ _ _ _ _ _ _ _ _ _ _ _ _ _ _ _ hne h12 H

theorem l_30 (hx : x + 6 ≤ L) (hL : L ≤ 3072) (hk : KK kk) (hne : qb 0 ≠ qs 0) (h12 : SI 12 = -9) (h : RLw tr fa BI BA LN SZ CE MI MA) : lc_30 kk L sc qS (nI x) qb qs tr fa fr rb rl ra wl WS BI BA SI SA LN SZ CE MI MA = some () := by
  unfold lc_30
  have H := h
  obtain ⟨g, G, R, S, t, f⟩ := h
  unfold f_X4_trace f_X5_trace
  simp only [ibn, t, ↓reduceIte]
  exact hk _ _ _ _ _ _ _ _ _ _ _ _ _ _ _ _ _ _ _ hne h12 H

theorem l_31 (hx : x + 6 ≤ L) (hL : L ≤ 3072) (hk : KK kk) (hne : qb 0 ≠ qs 0) (h12 : SI 12 = -9) (h : RLw tr fa BI BA LN SZ CE MI MA) : lc_31 kk L sc qS (nI x) qb qs tr fa fr rb rl ra wl WS BI BA SI SA LN SZ CE MI MA = some () := by
  unfold lc_31
  have H := h
  obtain ⟨g, G, R, S, t, f⟩ := h
  unfold f_X4_fault f_X5_fault
  simp only [ibn, f, ↓reduceIte]
  exact hk _ _ _ _ _ _ _ _ _ _ _ _ _ _ _ _ _ _ _ hne h12 H

theorem law_ok (hL : L ≤ 3072) : ∀ fuel x (qb qs : Nat → Nat) (tr fa : Int32) (fr : Option Nat) (rb rl ra wl : Int32) (WS BI : Nat → Int32) (BA : Nat → Nat → Int32) (SI : Nat → Int32) (SA : Nat → Nat → Int32) (LN SZ : Nat → Int32) (CE : Nat → Nat → Int32) (MI : Nat → Int32) (MA : Nat → Nat → Int32), x ≤ L → L < x + 6 * fuel → qb 0 ≠ qs 0 → SI 12 = -9 → RLw tr fa BI BA LN SZ CE MI MA → lawL L sc qS fuel (nI x) qb qs tr fa fr rb rl ra wl WS BI BA SI SA LN SZ CE MI MA = some () := by
  intro fuel
  induction fuel with
  | zero =>
    intro x qb qs tr fa fr rb rl ra wl WS BI BA SI SA LN SZ CE MI MA hx hf hne h12 h
    omega
  | succ fu ih =>
    intro x qb qs tr fa fr rb rl ra wl WS BI BA SI SA LN SZ CE MI MA hx hf hne h12 h
    rw [lawL]
    by_cases q : L < x + 6
    · rw [if_pos (show Int32.ofNat L - (6 : Int32) < nI x by
        show nI L - nI 6 < nI x
        rw [Int32.lt_iff_toInt_lt, pk_sub_toInt (by omega) (by omega), nI_toInt (by omega)]
        omega)]
    · rw [if_neg (show ¬ Int32.ofNat L - (6 : Int32) < nI x by
        show ¬ nI L - nI 6 < nI x
        rw [Int32.lt_iff_toInt_lt, pk_sub_toInt (by omega) (by omega), nI_toInt (by omega)]
        omega), if_neg (show ¬ (nI x < 0 ∨ L ≤ (nI x).toNatClampNeg) by
        rw [s_cl (by omega)]
        intro q
        rcases q with q | q
        · exact nI_pos (by omega) q
        · omega)]
      have hx6 : x + 6 ≤ L := by omega
      have e6 : nI x + (6 : Int32) = nI (x + 6) := s_add x 6
      have hk : KK (lawL L sc qS fu (nI x + (6 : Int32))) := by
        intro qb qs tr fa fr rb rl ra wl WS BI BA SI SA LN SZ CE MI MA hne h12 h
        rw [e6]
        exact ih (x + 6) qb qs tr fa fr rb rl ra wl WS BI BA SI SA LN SZ CE MI MA hx6 (by omega) hne h12 h
      by_cases c0 : ((sc (nI x).toNatClampNeg) &&& (63 : Int32)) = (0 : Int32)
      · rw [if_pos c0]
        exact l_0 hx6 hL hk hne h12 h
      rw [if_neg c0]
      by_cases c1 : ((sc (nI x).toNatClampNeg) &&& (63 : Int32)) = (1 : Int32)
      · rw [if_pos c1]
        exact l_1 hx6 hL hk hne h12 h
      rw [if_neg c1]
      by_cases c2 : ((sc (nI x).toNatClampNeg) &&& (63 : Int32)) = (2 : Int32)
      · rw [if_pos c2]
        exact l_2 hx6 hL hk hne h12 h
      rw [if_neg c2]
      by_cases c3 : ((sc (nI x).toNatClampNeg) &&& (63 : Int32)) = (3 : Int32)
      · rw [if_pos c3]
        exact l_3 hx6 hL hk hne h12 h
      rw [if_neg c3]
      by_cases c4 : ((sc (nI x).toNatClampNeg) &&& (63 : Int32)) = (4 : Int32)
      · rw [if_pos c4]
        exact l_4 hx6 hL hk hne h12 h
      rw [if_neg c4]
      by_cases c5 : ((sc (nI x).toNatClampNeg) &&& (63 : Int32)) = (5 : Int32)
      · rw [if_pos c5]
        exact l_5 hx6 hL hk hne h12 h
      rw [if_neg c5]
      by_cases c6 : ((sc (nI x).toNatClampNeg) &&& (63 : Int32)) = (6 : Int32)
      · rw [if_pos c6]
        exact l_6 hx6 hL hk hne h12 h
      rw [if_neg c6]
      by_cases c7 : ((sc (nI x).toNatClampNeg) &&& (63 : Int32)) = (7 : Int32)
      · rw [if_pos c7]
        exact l_7 hx6 hL hk hne h12 h
      rw [if_neg c7]
      by_cases c8 : ((sc (nI x).toNatClampNeg) &&& (63 : Int32)) = (8 : Int32)
      · rw [if_pos c8]
        exact l_8 hx6 hL hk hne h12 h
      rw [if_neg c8]
      by_cases c9 : ((sc (nI x).toNatClampNeg) &&& (63 : Int32)) = (9 : Int32)
      · rw [if_pos c9]
        exact l_9 hx6 hL hk hne h12 h
      rw [if_neg c9]
      by_cases c10 : ((sc (nI x).toNatClampNeg) &&& (63 : Int32)) = (10 : Int32)
      · rw [if_pos c10]
        exact l_10 hx6 hL hk hne h12 h
      rw [if_neg c10]
      by_cases c11 : ((sc (nI x).toNatClampNeg) &&& (63 : Int32)) = (11 : Int32)
      · rw [if_pos c11]
        exact l_11 hx6 hL hk hne h12 h
      rw [if_neg c11]
      by_cases c12 : ((sc (nI x).toNatClampNeg) &&& (63 : Int32)) = (12 : Int32)
      · rw [if_pos c12]
        exact l_12 hx6 hL hk hne h12 h
      rw [if_neg c12]
      by_cases c13 : ((sc (nI x).toNatClampNeg) &&& (63 : Int32)) = (13 : Int32)
      · rw [if_pos c13]
        exact l_13 hx6 hL hk hne h12 h
      rw [if_neg c13]
      by_cases c14 : ((sc (nI x).toNatClampNeg) &&& (63 : Int32)) = (14 : Int32)
      · rw [if_pos c14]
        exact l_14 hx6 hL hk hne h12 h
      rw [if_neg c14]
      by_cases c15 : ((sc (nI x).toNatClampNeg) &&& (63 : Int32)) = (15 : Int32)
      · rw [if_pos c15]
        exact l_15 hx6 hL hk hne h12 h
      rw [if_neg c15]
      by_cases c16 : ((sc (nI x).toNatClampNeg) &&& (63 : Int32)) = (16 : Int32)
      · rw [if_pos c16]
        exact l_16 hx6 hL hk hne h12 h
      rw [if_neg c16]
      by_cases c17 : ((sc (nI x).toNatClampNeg) &&& (63 : Int32)) = (17 : Int32)
      · rw [if_pos c17]
        exact l_17 hx6 hL hk hne h12 h
      rw [if_neg c17]
      by_cases c18 : ((sc (nI x).toNatClampNeg) &&& (63 : Int32)) = (18 : Int32)
      · rw [if_pos c18]
        exact l_18 hx6 hL hk hne h12 h
      rw [if_neg c18]
      by_cases c19 : ((sc (nI x).toNatClampNeg) &&& (63 : Int32)) = (19 : Int32)
      · rw [if_pos c19]
        exact l_19 hx6 hL hk hne h12 h
      rw [if_neg c19]
      by_cases c20 : ((sc (nI x).toNatClampNeg) &&& (63 : Int32)) = (20 : Int32)
      · rw [if_pos c20]
        exact l_20 hx6 hL hk hne h12 h
      rw [if_neg c20]
      by_cases c21 : ((sc (nI x).toNatClampNeg) &&& (63 : Int32)) = (21 : Int32)
      · rw [if_pos c21]
        exact l_21 hx6 hL hk hne h12 h
      rw [if_neg c21]
      by_cases c22 : ((sc (nI x).toNatClampNeg) &&& (63 : Int32)) = (22 : Int32)
      · rw [if_pos c22]
        exact l_22 hx6 hL hk hne h12 h
      rw [if_neg c22]
      by_cases c23 : ((sc (nI x).toNatClampNeg) &&& (63 : Int32)) = (23 : Int32)
      · rw [if_pos c23]
        exact l_23 hx6 hL hk hne h12 h
      rw [if_neg c23]
      by_cases c24 : ((sc (nI x).toNatClampNeg) &&& (63 : Int32)) = (24 : Int32)
      · rw [if_pos c24]
        exact l_24 hx6 hL hk hne h12 h
      rw [if_neg c24]
      by_cases c25 : ((sc (nI x).toNatClampNeg) &&& (63 : Int32)) = (25 : Int32)
      · rw [if_pos c25]
        exact l_25 hx6 hL hk hne h12 h
      rw [if_neg c25]
      by_cases c26 : ((sc (nI x).toNatClampNeg) &&& (63 : Int32)) = (26 : Int32)
      · rw [if_pos c26]
        exact l_26 hx6 hL hk hne h12 h
      rw [if_neg c26]
      by_cases c27 : ((sc (nI x).toNatClampNeg) &&& (63 : Int32)) = (27 : Int32)
      · rw [if_pos c27]
        exact l_27 hx6 hL hk hne h12 h
      rw [if_neg c27]
      by_cases c28 : ((sc (nI x).toNatClampNeg) &&& (63 : Int32)) = (28 : Int32)
      · rw [if_pos c28]
        exact l_28 hx6 hL hk hne h12 h
      rw [if_neg c28]
      by_cases c29 : ((sc (nI x).toNatClampNeg) &&& (63 : Int32)) = (29 : Int32)
      · rw [if_pos c29]
        exact l_29 hx6 hL hk hne h12 h
      rw [if_neg c29]
      by_cases c30 : ((sc (nI x).toNatClampNeg) &&& (63 : Int32)) = (30 : Int32)
      · rw [if_pos c30]
        exact l_30 hx6 hL hk hne h12 h
      rw [if_neg c30]
      by_cases c31 : ((sc (nI x).toNatClampNeg) &&& (63 : Int32)) = (31 : Int32)
      · rw [if_pos c31]
        exact l_31 hx6 hL hk hne h12 h
      rw [if_neg c31]
      by_cases c32 : ((sc (nI x).toNatClampNeg) &&& (63 : Int32)) = (32 : Int32)
      · rw [if_pos c32]
        exact l_32 hx6 hL hk hne h12 h
      rw [if_neg c32]
      exact hk _ _ _ _ _ _ _ _ _ _ _ _ _ _ _ _ _ _ _ hne h12 h

end LW
