/-! switches -/
section SW
variable {Out : Type} {X : CX} {Qf : Out → State → Prop} {own : String} {cc : ByteArray} {nL k n : Nat} {ret : Option FieldType} {rm : Room} {tys : List (ClassId × FieldType)} {F F1 F2 F3 F4 : Option Out} {ws : va_W} {lv : List (Nat × Value)} {pc tgt : Nat} {st : List Value}
theorem r_ite {c : Prop} [Decidable c] (K1 : c → JR X Qf nL k n F1 ws lv pc st) (K2 : ¬ c → JR X Qf nL k n F2 ws lv pc st) : JR X Qf nL k n (if c then F1 else F2) ws lv pc st := by
  by_cases h : c
  · rw [if_pos h]; exact K1 h
  · rw [if_neg h]; exact K2 h
theorem r_tabIn (C : Cx X own cc nL ret rm tys) {dflt lo hi : Int} {offs : Array Int} {len : Nat} {x z : Int32} {off : Int} (h : x = z) (hd : decode cc pc = .ok (.tableswitch dflt lo hi offs, len)) (h1 : ¬ z.toInt < lo) (h2 : ¬ hi < z.toInt) (ho : offs[(z.toInt - lo).toNat]? = some off) (ht : (pc : Int) + off = (tgt : Int)) (K : JR X Qf nL k n F ws lv tgt st) : JR X Qf nL k n F ws lv pc (.int x :: st) := fun o hF H locs ls hP hD hS hl => by
  subst h
  exact lv_tableIn C.1 C.2.1 hd h1 h2 ho ht (K o hF H locs ls hP hD hS hl)
theorem r_tabOut (C : Cx X own cc nL ret rm tys) {dflt hi : Int} {offs : Array Int} {len N : Nat} {x : Int32} (h : ∀ i : Nat, i < N → ¬ x = nI i) (hN : (N : Int) = hi + 1) (hd : decode cc pc = .ok (.tableswitch dflt 0 hi offs, len)) (ht : (pc : Int) + dflt = (tgt : Int)) (K : JR X Qf nL k n F ws lv tgt st) : JR X Qf nL k n F ws lv pc (.int x :: st) := fun o hF H locs ls hP hD hS hl => by
  refine lv_tableOut C.1 C.2.1 hd ?_ ht (K o hF H locs ls hP hD hS hl)
  by_cases h0 : x.toInt < 0
  · exact Or.inl h0
  · right
    obtain ⟨j, hj, rfl⟩ := nI_of (x := x) (fun q => h0 (by simpa [Int32.lt_iff_toInt_lt] using q))
    rw [nI_toInt hj] at *
    have : ¬ j < N := fun hj2 => h j hj2 rfl
    omega
theorem r_lk2 (C : Cx X own cc nL ret rm tys) {d i1 o1 i2 o2 : Int} {len t1 t2 t3 : Nat} {x z1 z2 : Int32} (hd : decode cc pc = .ok (.lookupswitch d #[(i1, o1), (i2, o2)], len)) (e1 : z1.toInt = i1) (e2 : z2.toInt = i2) (hlt : i1 < i2) (h1 : (pc : Int) + o1 = (t1 : Int)) (h2 : (pc : Int) + o2 = (t2 : Int)) (h3 : (pc : Int) + d = (t3 : Int)) (K1 : JR X Qf nL k n F1 ws lv t1 st) (K2 : JR X Qf nL k n F2 ws lv t2 st) (K3 : JR X Qf nL k n F3 ws lv t3 st) : JR X Qf nL k n (if x = z1 then F1 else if x = z2 then F2 else F3) ws lv pc (.int x :: st) := by
  have hp : (#[(i1, o1), (i2, o2)].toList.zip (#[(i1, o1), (i2, o2)].toList.drop 1)).all (fun (a, next) => a.1 < next.1) = true := by simp [hlt]
  refine r_ite (fun c1 => ?_) (fun c1 => r_ite (fun c2 => ?_) (fun c2 => ?_))
  · intro o hF H locs ls hP hD hS hl
    subst c1
    refine lv_lookup C.1 C.2.1 hd hp (off := o1) ?_ h1 (K1 o hF H locs ls hP hD hS hl)
    simp [Op.lookupswitch.offset, e1]
  · intro o hF H locs ls hP hD hS hl
    refine lv_lookup C.1 C.2.1 hd hp (off := o2) ?_ h2 (K2 o hF H locs ls hP hD hS hl)
    rw [lv_osw c1 e1]
    subst c2
    simp [Op.lookupswitch.offset, e2]
  · intro o hF H locs ls hP hD hS hl
    refine lv_lookup C.1 C.2.1 hd hp (off := d) ?_ h3 (K3 o hF H locs ls hP hD hS hl)
    rw [lv_osw c1 e1, lv_osw c2 e2]
    simp [Op.lookupswitch.offset]
theorem r_lk3 (C : Cx X own cc nL ret rm tys) {d i1 o1 i2 o2 i3 o3 : Int} {len t1 t2 t3 t4 : Nat} {x z1 z2 z3 : Int32} (hd : decode cc pc = .ok (.lookupswitch d #[(i1, o1), (i2, o2), (i3, o3)], len)) (e1 : z1.toInt = i1) (e2 : z2.toInt = i2) (e3 : z3.toInt = i3) (hlt : i1 < i2 ∧ i2 < i3) (h1 : (pc : Int) + o1 = (t1 : Int)) (h2 : (pc : Int) + o2 = (t2 : Int)) (h3 : (pc : Int) + o3 = (t3 : Int)) (h4 : (pc : Int) + d = (t4 : Int)) (K1 : JR X Qf nL k n F1 ws lv t1 st) (K2 : JR X Qf nL k n F2 ws lv t2 st) (K3 : JR X Qf nL k n F3 ws lv t3 st) (K4 : JR X Qf nL k n F4 ws lv t4 st) : JR X Qf nL k n (if x = z1 then F1 else if x = z2 then F2 else if x = z3 then F3 else F4) ws lv pc (.int x :: st) := by
  have hp : (#[(i1, o1), (i2, o2), (i3, o3)].toList.zip (#[(i1, o1), (i2, o2), (i3, o3)].toList.drop 1)).all (fun (a, next) => a.1 < next.1) = true := by simp [hlt]
  refine r_ite (fun c1 => ?_) (fun c1 => r_ite (fun c2 => ?_) (fun c2 => r_ite (fun c3 => ?_) (fun c3 => ?_)))
  · intro o hF H locs ls hP hD hS hl
    subst c1
    refine lv_lookup C.1 C.2.1 hd hp (off := o1) ?_ h1 (K1 o hF H locs ls hP hD hS hl)
    simp [Op.lookupswitch.offset, e1]
  · intro o hF H locs ls hP hD hS hl
    refine lv_lookup C.1 C.2.1 hd hp (off := o2) ?_ h2 (K2 o hF H locs ls hP hD hS hl)
    rw [lv_osw c1 e1]
    subst c2
    simp [Op.lookupswitch.offset, e2]
  · intro o hF H locs ls hP hD hS hl
    refine lv_lookup C.1 C.2.1 hd hp (off := o3) ?_ h3 (K3 o hF H locs ls hP hD hS hl)
    rw [lv_osw c1 e1, lv_osw c2 e2]
    subst c3
    simp [Op.lookupswitch.offset, e3]
  · intro o hF H locs ls hP hD hS hl
    refine lv_lookup C.1 C.2.1 hd hp (off := d) ?_ h4 (K4 o hF H locs ls hP hD hS hl)
    rw [lv_osw c1 e1, lv_osw c2 e2, lv_osw c3 e3]
    simp [Op.lookupswitch.offset]
end SW
/-! the worlds: a field's number is its slot's; q k is the address of the array in field k (q 0 the object's), I k the int in field k, A k what the array in field k holds -/
abbrev rmz (f l : Nat) : Room := { frames := f, cells := 0, slots := 0, locals := l }
abbrev arI (cI : ClassId) (N : Nat) (f : Nat → Int32) : va_E := .inl (cI, N, .inl f)
def wdB (cI : ClassId) (q : Nat → Nat) (I : Nat → Int32) (A : Nat → Nat → Int32) : va_W :=
  [(q 0, .inr (0, [.int (I 0), .ref (q 1), .ref (q 2), .int (I 3), .ref (q 4), .ref (q 5), .ref (q 6), .ref (q 7), .ref (q 8), .int (I 9), .int (I 10), .int (I 11), .int (I 12), .int (I 13), .ref (q 14), .ref (q 15)])), (q 1, arI cI 4 (A 1)), (q 2, arI cI 4 (A 2)), (q 4, arI cI 4 (A 4)), (q 5, arI cI 4 (A 5)), (q 6, arI cI 4 (A 6)), (q 7, arI cI 4 (A 7)), (q 8, arI cI 3 (A 8)), (q 14, arI cI 8 (A 14)), (q 15, arI cI 8 (A 15))]
def wdM (cI : ClassId) (q : Nat → Nat) (I : Nat → Int32) (A : Nat → Nat → Int32) : va_W :=
  [(q 0, .inr (5, [.int (I 0), .int (I 1), .ref (q 2), .ref (q 3), .int (I 4), .ref (q 5), .ref (q 6), .ref (q 7), .ref (q 8), .ref (q 9), .int (I 10), .int (I 11), .int (I 12), .int (I 13), .int (I 14), .int (I 15), .int (I 16), .int (I 17), .ref (q 18), .ref (q 19), .ref (q 20), .ref (q 21), .ref (q 22), .ref (q 23), .ref (q 24), .ref (q 25), .int (I 26), .ref (q 27), .ref (q 28), .ref (q 29), .ref (q 30), .ref (q 31), .ref (q 32), .int (I 33)])), (q 2, arI cI 4 (A 2)), (q 3, arI cI 4 (A 3)), (q 5, arI cI 4 (A 5)), (q 6, arI cI 4 (A 6)), (q 7, arI cI 4 (A 7)), (q 8, arI cI 4 (A 8)), (q 9, arI cI 3 (A 9)), (q 18, arI cI 4 (A 18)), (q 19, arI cI 4 (A 19)), (q 20, arI cI 4 (A 20)), (q 21, arI cI 4 (A 21)), (q 22, arI cI 4 (A 22)), (q 23, arI cI 8 (A 23)), (q 24, arI cI 4 (A 24)), (q 25, arI cI 4 (A 25)), (q 27, arI cI 8 (A 27)), (q 28, arI cI 8 (A 28)), (q 29, arI cI 4 (A 29)), (q 30, arI cI 4 (A 30)), (q 31, arI cI 240 (A 31)), (q 32, arI cI 60 (A 32))]
def wdS (cI : ClassId) (a b : Nat) (ln sz : Int32) (ce : Nat → Int32) : va_W := [(a, .inr (1, [.ref b, .int ln, .int sz])), (b, arI cI 60 ce)]
def wdR (a : Nat) (fr : Value) (rb rl ra : Int32) : va_W := [(a, .inr (2, [fr, .int rb, .int rl, .int ra]))]
def wdW (cI : ClassId) (a b : Nat) (wl : Int32) (WS : Nat → Int32) : va_W := [(a, .inr (3, [.ref b, .int wl])), (b, arI cI 8 WS)]
def wdX (cI cS : ClassId) (q qb qs qS qC : Nat → Nat) (pb ps : Nat) (tr fa : Int32) (fr : Option Nat) (rb rl ra wl : Int32) (WS BI : Nat → Int32) (BA : Nat → Nat → Int32) (SI : Nat → Int32) (SA : Nat → Nat → Int32) (LN SZ : Nat → Int32) (CE : Nat → Nat → Int32) : va_W :=
  [(q 0, .inr (4, [.ref (q 1), .ref (q 2), .ref (q 3), .ref pb, .ref ps, .int tr, .int fa])), (q 1, .inl (cS, 4, .inr (.inr (.inr (.inr (fun j => some (qS j))))))), (q 2, .inr (2, [va_rf fr, .int rb, .int rl, .int ra])), (q 3, .inr (3, [.ref (q 4), .int wl])), (q 4, arI cI 8 WS)] ++ (wdB cI qb BI BA ++ (wdB cI qs SI SA ++ [(qS 0, .inr (1, [.ref (qC 0), .int (LN 0), .int (SZ 0)])), (qC 0, arI cI 60 (CE 0)), (qS 1, .inr (1, [.ref (qC 1), .int (LN 1), .int (SZ 1)])), (qC 1, arI cI 60 (CE 1)), (qS 2, .inr (1, [.ref (qC 2), .int (LN 2), .int (SZ 2)])), (qC 2, arI cI 60 (CE 2)), (qS 3, .inr (1, [.ref (qC 3), .int (LN 3), .int (SZ 3)])), (qC 3, arI cI 60 (CE 3))]))
