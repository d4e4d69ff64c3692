theorem pure_law (L : Nat) (hL : L ≤ 3072) (sc : Nat → Int32) (qS qb qs : Nat → Nat) (hne : qb 0 ≠ qs 0) : lawL L sc qS 1000 0 qb qs 0 0 none 0 0 0 0 (fun _ => 0) (upd (fun _ => 0) 12 (-9)) (fun _ _ => 0) (upd (fun _ => 0) 12 (-9)) (fun _ _ => 0) (fun _ => -1) (fun _ => 0) (fun _ _ => 0) (upd (fun _ => 0) 13 (-9)) (va_up (fun _ _ => 0) 29 (upd (upd (upd (upd (fun _ => 0) (0 : Int32).toNatClampNeg (-1)) (1 : Int32).toNatClampNeg (-1)) (2 : Int32).toNatClampNeg (-1)) (3 : Int32).toNatClampNeg (-1))) = some () := by
  refine law_ok hL 1000 0 qb qs 0 0 none 0 0 0 0 _ _ _ _ _ _ _ _ _ _ (Nat.zero_le _) (by omega) hne rfl ?_
  refine ⟨fun q => if q = 12 then 99 else 0, fun _ _ => 0, ⟨⟨rfl, rfl, rfl, rfl, rfl, rfl, rfl, fun p hp => absurd hp (Nat.not_lt_zero _), fun p hp => absurd hp (Nat.not_lt_zero _), fun c hc => rfl, fun p hp => absurd hp (Nat.not_lt_zero _)⟩, ⟨rfl, rfl, rfl, rfl, rfl, rfl, rfl, fun p hp => absurd hp (Nat.not_lt_zero _), fun p hp => absurd hp (Nat.not_lt_zero _), fun c hc => rfl, fun p hp => absurd hp (Nat.not_lt_zero _)⟩, ⟨by decide, by decide, by decide, by decide, by decide, Or.inr rfl, by decide, fun p hp => absurd hp (Nat.not_lt_zero _), fun p hp => absurd hp (Nat.not_lt_zero _), fun c hc => Nat.zero_le _, fun p hp => absurd hp (Nat.not_lt_zero _)⟩, ⟨fun _ => rfl, fun _ => rfl⟩, rfl, by decide⟩, fun j hj => Or.inl ?_, rfl, rfl⟩
  rcases (show j = 0 ∨ j = 1 ∨ j = 2 ∨ j = 3 by omega) with rfl | rfl | rfl | rfl
  · exact ⟨rfl, rfl, rfl⟩
  · exact ⟨rfl, rfl, rfl⟩
  · exact ⟨rfl, rfl, rfl⟩
  · exact ⟨rfl, rfl, rfl⟩
