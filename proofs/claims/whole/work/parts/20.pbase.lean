/-! numbers: the ints of the class and of the reference as Nat -/
theorem li0 : (0 : Int32) = nI 0 := rfl
theorem li1 : (1 : Int32) = nI 1 := rfl
theorem li2 : (2 : Int32) = nI 2 := rfl
theorem li3 : (3 : Int32) = nI 3 := rfl
theorem li4 : (4 : Int32) = nI 4 := rfl
theorem li7 : (7 : Int32) = nI 7 := rfl
theorem li8 : (8 : Int32) = nI 8 := rfl
theorem li9 : (9 : Int32) = nI 9 := rfl
theorem li60 : (60 : Int32) = nI 60 := rfl
theorem li100 : (100 : Int32) = nI 100 := rfl
theorem s_le {a b : Nat} (ha : a < 2147483648) (hb : b < 2147483648) : (nI a ≤ nI b) ↔ a ≤ b := nI_leI ha hb
theorem s_lt {a b : Nat} (ha : a < 2147483648) (hb : b < 2147483648) : (nI a < nI b) ↔ a < b := nI_ltI ha hb
theorem s_eq {a b : Nat} (ha : a < 2147483648) (hb : b < 2147483648) : (nI a = nI b) ↔ a = b := nI_eq ha hb
theorem s_lt0 {a : Nat} (ha : a < 2147483648) : (nI a < 0) ↔ False := ⟨nI_pos ha, False.elim⟩
theorem s_0le {a : Nat} (ha : a < 2147483648) : (0 ≤ nI a) ↔ True := ⟨fun _ => trivial, fun _ => nI_pos' ha⟩
theorem s_eq0 {a : Nat} (ha : a < 2147483648) : (nI a = 0) ↔ a = 0 := s_eq (b := 0) ha (by decide)
theorem s_le0 {a : Nat} (ha : a < 2147483648) : (nI a ≤ 0) ↔ a = 0 := (s_le (b := 0) ha (by decide)).trans Nat.le_zero
theorem s_0lt {a : Nat} (ha : a < 2147483648) : (0 < nI a) ↔ 0 < a := s_lt (a := 0) (by decide) ha
theorem s_cl {a : Nat} (ha : a < 2147483648) : (nI a).toNatClampNeg = a := nI_clamp ha
theorem s_in {c N : Nat} (h : c < N) (hN : N < 2147483648) : (nI c < 0 ∨ N ≤ (nI c).toNatClampNeg) ↔ False := ⟨nI_in h hN, False.elim⟩
theorem s_add (a b : Nat) : nI a + nI b = nI (a + b) := nI_add a b
theorem s_mul (a b : Nat) : nI a * nI b = nI (a * b) := pk_mul a b
theorem s_m9 {a : Nat} (ha : a < 2147483648) : (nI a = -9) ↔ False := ⟨fun h => by
  have := congrArg Int32.toInt h
  rw [nI_toInt ha] at this
  have e : (-9 : Int32).toInt = -9 := by decide
  omega, False.elim⟩
theorem s_m1 {a : Nat} (ha : a < 2147483648) : (nI a = -1) ↔ False := ⟨fun h => by
  have := congrArg Int32.toInt h
  rw [nI_toInt ha] at this
  have e : (-1 : Int32).toInt = -1 := by decide
  omega, False.elim⟩
def bitN (d k : Nat) : Nat := d / 2 ^ k % 2
theorem bitN_lt (d k : Nat) : bitN d k < 2 := Nat.mod_lt _ (by decide)
theorem sh_l : ∀ n, n < 32 → ((nI n &&& 31).toBitVec.smod 32).toNat = n := by decide +kernel
theorem bit_tst {d k : Nat} (hd : d < 2147483648) (hk : k < 32) : ((nI d >>> (nI k &&& 31)) &&& (1 : Int32)) = nI (bitN d k) := by
  rw [pk_shrN hd (nI k &&& 31) k (sh_l k hk)]
  have h2 : d / 2 ^ k < 2 ^ 32 := Nat.lt_of_le_of_lt (Nat.div_le_self _ _) (by omega)
  exact pk_andN h2 1 (by decide)
theorem bit_shl {k : Nat} (hk : k < 31) : ((1 : Int32) <<< (nI k &&& 31)) = nI (2 ^ k) := by
  have h := pk_shlN (n := 1) (nI k &&& 31) k (sh_l k (by omega)) (by
    rw [Nat.one_mul]
    exact Nat.pow_lt_pow_right (by decide) (by omega))
  rw [Nat.one_mul] at h
  exact h
/-- any int is too small, too large, or in range -/
theorem ix (x : Int32) {n : Nat} (hn : n < 2147483648) : x < 0 ∨ nI n ≤ x ∨ ∃ j : Nat, j < n ∧ x = nI j := pk_ix x hn
theorem ibind {α β : Type} (a : α) (f : α → Option β) : Option.bind (some a) f = f a := rfl
theorem uu_s (f : Nat → Int32) (k : Nat) (x : Int32) : upd f k x k = x := if_pos rfl
theorem uu_n (f : Nat → Int32) {k j : Nat} (x : Int32) (h : j ≠ k) : upd f k x j = f j := if_neg h
theorem vv_s {α : Type} (f : Nat → α) (k : Nat) (x : α) : va_up f k x k = x := if_pos rfl
theorem vv_n {α : Type} (f : Nat → α) {k j : Nat} (x : α) (h : j ≠ k) : va_up f k x j = f j := if_neg h
theorem uu_u (f : Nat → Int32) (k : Nat) (x y : Int32) : upd (upd f k x) k y = upd f k y := by
  funext j
  by_cases h : j = k
  · subst h; rw [uu_s, uu_s]
  · rw [uu_n _ _ h, uu_n _ _ h, uu_n _ _ h]
theorem vv_v {α : Type} (f : Nat → α) (k : Nat) (x y : α) : va_up (va_up f k x) k y = va_up f k y := bx_uu f k x y
/-! a configuration in Nat: g the numbers, G the rows, by the class's own slots (g 12: the silence that is left out, 99: none) -/
def lowI (v : Nat) : Int32 := if v = 99 then -9 else nI v
def WF (g : Nat → Nat) (G : Nat → Nat → Nat) : Prop :=
  g 0 ≤ 4 ∧ g 3 ≤ 4 ∧ g 9 < 16 ∧ g 10 ≤ 7 ∧ g 11 ≤ 9 ∧ (g 12 < 4 ∨ g 12 = 99) ∧ g 13 ≤ 8 ∧ (∀ p, p < g 0 → 1 ≤ G 1 p ∧ G 1 p ≤ 9 ∧ G 2 p ≤ 9) ∧ (∀ k, k < g 3 → G 4 k ≤ 2 ∧ G 5 k ≤ 9 ∧ G 6 k ≤ 9 ∧ G 7 k ≤ 2) ∧ (∀ c, c < 3 → G 8 c ≤ 9) ∧ (∀ x, x < g 13 → G 14 x < g 0 ∧ G 15 x ≤ 99999)
def VX (BI : Nat → Int32) (BA : Nat → Nat → Int32) (g : Nat → Nat) (G : Nat → Nat → Nat) : Prop :=
  BI 0 = nI (g 0) ∧ BI 3 = nI (g 3) ∧ BI 9 = nI (g 9) ∧ BI 10 = nI (g 10) ∧ BI 11 = nI (g 11) ∧ BI 12 = lowI (g 12) ∧ BI 13 = nI (g 13) ∧ (∀ p, p < g 0 → BA 1 p = nI (G 1 p) ∧ BA 2 p = nI (G 2 p)) ∧ (∀ k, k < g 3 → BA 4 k = nI (G 4 k) ∧ BA 5 k = nI (G 5 k) ∧ BA 6 k = nI (G 6 k) ∧ BA 7 k = nI (G 7 k)) ∧ (∀ c, c < 3 → BA 8 c = nI (G 8 c)) ∧ (∀ x, x < g 13 → BA 14 x = nI (G 14 x) ∧ BA 15 x = nI (G 15 x))
def VM (MI : Nat → Int32) (MA : Nat → Nat → Int32) (g : Nat → Nat) (G : Nat → Nat → Nat) : Prop :=
  MI 1 = nI (g 0) ∧ MI 4 = nI (g 3) ∧ MI 10 = nI (g 9) ∧ MI 12 = nI (g 10) ∧ MI 11 = nI (g 11) ∧ MI 13 = lowI (g 12) ∧ MI 26 = nI (g 13) ∧ (∀ p, p < g 0 → MA 2 p = nI (G 1 p) ∧ MA 3 p = nI (G 2 p)) ∧ (∀ k, k < g 3 → MA 5 k = nI (G 4 k) ∧ MA 6 k = nI (G 5 k) ∧ MA 7 k = nI (G 6 k) ∧ MA 8 k = nI (G 7 k)) ∧ (∀ c, c < 3 → MA 9 c = nI (G 8 c)) ∧ (∀ x, x < g 13 → MA 27 x = nI (G 14 x) ∧ MA 28 x = nI (G 15 x))
theorem low_eq {k v : Nat} (hk : k < 4) (hv : v < 4 ∨ v = 99) : (nI k = lowI v) ↔ k = v := by
  unfold lowI
  by_cases h : v = 99
  · rw [if_pos h, s_m9 (by omega)]
    constructor
    · exact False.elim
    · omega
  · rw [if_neg h, s_eq (by omega) (by omega)]
/-! what a silence is worth -/
def grN (kd fi : Nat) : Nat := if kd = 0 then fi else if kd = 1 then fi + 1 else 2 * (fi + 1)
def dutB (g : Nat → Nat) (G : Nat → Nat → Nat) (k : Nat) : Prop := k ≠ g 12 ∧ bitN (g 10) (G 4 k) = 1
def cnd (g : Nat → Nat) (G : Nat → Nat → Nat) (who k : Nat) : Prop := G 7 k = who ∧ k ≠ g 12 ∧ bitN (g 9) k = 1 ∧ bitN (g 10) (G 4 k) = 1
theorem grN_le {kd fi : Nat} (h : fi ≤ 9) : grN kd fi ≤ 20 := by
  unfold grN
  split
  · omega
  · split <;> omega
