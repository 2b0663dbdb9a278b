/-! The memory when both are made. -/
def zsig0 : zM := (fun k j => if (k = 1 ∨ k = 13 ∨ k = 25 ∨ k = 37) ∧ j = 0 then 9 else if k = 76 ∧ j = 1 then 9 else 0, fun k j => if (k = 0 ∧ j = 10) ∨ (k = 75 ∧ j = 5) then 1 else 0)
theorem zR_0 : zR zsig0 := by
  refine ⟨zA0 9, zA0_wf (by decide), ⟨rfl, fun i hi => ?_, rfl, fun f hf => absurd hf (Nat.not_lt_zero f), rfl, rfl, fun k hk => absurd hk (Nat.not_lt_zero k), rfl, fun u hu => absurd hu (Nat.not_lt_zero u)⟩, ⟨rfl, rfl, ⟨rfl, rfl⟩, rfl, rfl, fun f hf => absurd hf (Nat.not_lt_zero f), fun k hk => absurd hk (Nat.not_lt_zero k), fun u hu => absurd hu (Nat.not_lt_zero u)⟩, fun j hj => rfl, ⟨0, by decide, rfl, rfl, fun j hj => absurd hj (Nat.not_lt_zero j)⟩, ⟨rfl, rfl⟩, fun i hi => ⟨rfl, Or.inl rfl⟩⟩
  rcases (show i = 0 ∨ i = 1 by omega) with rfl | rfl <;> rfl
