-- ===== the start =====
theorem iv0 : Ivt 0 w0 := by
  have f1 : ∀ i, i < 12 → fillf (fun _ => (0 : Int32)) 12 (-1) i = -1 := fun i hi => by unfold fillf; rw [if_pos hi]
  have f0 : ∀ i, i < 12 → fillf (fun _ => (0 : Int32)) 12 0 i = 0 := fun i hi => by unfold fillf; rw [if_pos hi]
  refine ⟨6, fun _ => 0, fun _ => -1, 0, 0, fun _ => 0, 0, fun _ => (fun _ => 0, fun _ => 0), ⟨GW.empty (by omega) (by omega), fun i _ => Or.inl rfl, by omega, by omega, fun j hj => by omega⟩, by omega, ⟨⟨rfl, fun i hi => rfl⟩, fun i hi => f1 i hi, ⟨by decide, fun q => ?_⟩, rfl, ⟨rfl, fun i hi => by omega⟩, rfl, 0, by omega, rfl, fun j hj => by omega⟩, ⟨rfl, fun i hi => f0 i hi⟩, fun i hi => f1 i hi, ⟨rfl, fun i hi => by omega⟩, rfl, fun j hj => by omega⟩
  exfalso
  revert q
  decide
theorem goes_on_all : ∀ (xs : Nat → Int32) (L : Nat), L ≤ 2048 → Goes_on xs L := fun _ _ hL => ⟨Ivt, iv0, fun _ _ I h => law_step hL h I⟩
