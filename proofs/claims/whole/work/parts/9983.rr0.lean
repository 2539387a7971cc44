/-! THE START: class and reference agree -/
theorem k0C_z {k j : Nat} (h0 : k ≠ 0) (h3 : k ≠ 3) (h12 : k ≠ 12) (h13 : k ≠ 13) (h57 : k ≠ 57) : k0C k j = 0 := by
  unfold k0C
  rw [if_neg h0, if_neg h3, if_neg h12, if_neg h13, if_neg h57]
theorem k0M_z {k j : Nat} (h0 : k ≠ 0) : k0M k j = 0 := by
  unfold k0M
  rw [if_neg h0]
theorem k0C_rng (k j : Nat) : -1 ≤ k0C k j ∧ k0C k j ≤ 3 := by
  unfold k0C
  repeat' split
  all_goals
    dsimp only
    try split
  all_goals decide
theorem k0M_rng (k j : Nat) : -1 ≤ k0M k j ∧ k0M k j ≤ 3 := by
  unfold k0M
  repeat' split
  all_goals
    dsimp only
    repeat' split
  all_goals decide
theorem kgood_rng {Y : List kD} {σ : kM} (h : ∀ k j : Nat, -1 ≤ σ k j ∧ σ k j ≤ 3) : kgood Y σ := by
  intro k j
  obtain ⟨a, b⟩ := h k j
  split
  · exact ⟨by omega, by omega⟩
  · exact ⟨by omega, by omega⟩
theorem RR0 : RR k0C k0M := by
  refine ⟨0, 0, 3, fun _ => 0, [], [], [], ⟨by decide, by decide, by decide, fun w h1 h2 => by omega, Or.inl rfl, Or.inl rfl, Or.inl rfl⟩, ⟨rfl, rfl, rfl, fun w h1 h2 => by omega, ⟨0, rfl, rfl, by decide, trivial⟩, ⟨0, rfl, rfl, by decide, trivial⟩, ⟨0, rfl, rfl, by decide, trivial⟩⟩, ⟨rfl, rfl, rfl, Or.inl ⟨rfl, rfl⟩, Or.inl ⟨rfl, rfl⟩, Or.inl ⟨rfl, rfl⟩⟩, rfl, ⟨fun k hk ho => ?_, ⟨fun k hk => ?_, ?_, fun w p _ _ _ _ => ?_⟩, rfl, by decide, ⟨0, by decide, rfl, fun i hi => ?_⟩, rfl, by decide, fun i hi => ?_⟩, ⟨rfl, by decide, fun i hi => ?_⟩, rfl, fun i hi => ?_, ⟨rfl, Or.inl rfl⟩, fun h => ?_⟩
  · rw [k0M_z (by decide)]
    unfold vC
    repeat' split
    all_goals exact k0C_z (by decide) (by decide) (by decide) (by decide) (by decide)
  · rw [k0M_z (by decide)]
    refine ⟨fun _ _ => by decide, fun _ _ => by decide, fun _ _ => by decide, fun _ _ h => by omega, fun _ _ => by decide, fun _ _ => rfl, fun _ _ => by decide, fun _ _ => by decide, fun _ => by decide⟩
  · rw [k0M_z (by decide)]
    decide
  · rw [k0M_z (by decide), k0M_z (by decide)]
    decide
  · have h : (i : Int) < 0 := hi
    omega
  · have h : (i : Int) < 0 := hi
    omega
  · have h : (i : Int) < 0 := hi
    omega
  · rw [k0M_z (by decide)]
    exact k0C_z (by decide) (by decide) (by decide) (by decide) (by decide)
  · have h : (0 : Int) = 1 := h
    omega
