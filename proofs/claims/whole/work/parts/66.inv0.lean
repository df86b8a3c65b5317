/-! the start -/
def A0s : AbS := (0, 10, 0, 1, fun _ => 0, fun _ => 0, fun _ _ => 0, fun _ => 0)
theorem Inv_0 : Inv σ0 := by
  refine ⟨A0s, ⟨?_, ?_, ?_, ?_, ?_, ?_, ?_, ?_, ?_⟩, ?_⟩
  · exact ⟨Nat.zero_le _, show 2 ≤ 10 by omega, show 10 ≤ 10 by omega, Nat.zero_le _, fun _ => Nat.zero_le _, fun _ => Nat.zero_le _, fun _ _ => Nat.zero_le _, fun _ _ _ => rfl, fun _ => Nat.zero_le _⟩
  · exact ⟨rfl, rfl, rfl, rfl, fun i hi => absurd hi (Nat.not_lt_zero i), fun _ _ _ _ => rfl, fun i hi => absurd hi (Nat.not_lt_zero i)⟩
  · exact ⟨rfl, rfl, rfl, rfl, fun i hi => absurd hi (Nat.not_lt_zero i), fun i f hi _ => absurd hi (Nat.not_lt_zero i), fun i hi => absurd hi (Nat.not_lt_zero i)⟩
  · exact Or.inl ⟨rfl, rfl⟩
  · intro s hs
    refine Or.inl ⟨rfl, ?_⟩
    have : s = 0 ∨ s = 1 ∨ s = 2 ∨ s = 3 ∨ s = 4 ∨ s = 5 ∨ s = 6 ∨ s = 7 := by omega
    rcases this with rfl | rfl | rfl | rfl | rfl | rfl | rfl | rfl <;> exact ⟨rfl, rfl, rfl⟩
  · refine ⟨?_, fun j hj => absurd hj (Nat.not_lt_zero j)⟩
    rw [okRefs_iff]
    intro k i j hk hi hj
    cases hj
  · rfl
  · exact ⟨0, Nat.zero_le _, rfl, rfl, fun i hi => absurd hi (Nat.not_lt_zero i)⟩
  · intro i; rfl
  · intro i hi; rfl
