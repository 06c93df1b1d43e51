/-! the relation at the beginning -/
theorem Rl_00 : Rl 0 S00 S0M := by
  have z1 : ∀ j, S0M.1 j = 0 := fun _ => rfl
  have z2 : ∀ i, i ≠ 13 → ∀ n, S0M.2 i n = 0 := fun i hi n => by
    show (if i = 13 then rat4 else fun _ => 0) n = 0
    rw [if_neg hi]
  have t0 : tn (0 : Int32) = 0 := rfl
  have v0 : ∀ {k : Nat}, k < 0 → False := fun h => absurd h (Nat.not_lt_zero _)
  refine ⟨⟨⟨?_, ?_, ?_, ?_, ?_, ?_, ?_, ?_, ?_, ?_, ?_, ?_, ?_⟩, ⟨?_, ?_, ?_, ?_⟩, ⟨?_, ?_, ?_, ?_, ?_⟩, ⟨?_, ?_⟩, ⟨?_, ?_, ?_⟩, ⟨?_, ?_, ?_⟩, ?_, ?_, ?_, ?_⟩, ⟨rfl, rfl, rfl, rfl, rfl, rfl, rfl, rfl⟩, ⟨rfl, ?_, ?_⟩, ?_, ⟨by decide +kernel, rfl, rfl, rfl, rfl, by decide +kernel, by decide +kernel⟩, ⟨rfl, ?_, List.nodup_nil, ?_, List.Pairwise.nil⟩, ⟨rfl, rfl, rfl, rfl, rfl, rfl, rfl⟩⟩
  · exact Nat.zero_le _
  · exact Nat.zero_le _
  · exact Nat.zero_le _
  · exact Nat.zero_le _
  · exact Nat.zero_le _
  · exact Nat.zero_le _
  · exact Nat.zero_le _
  · exact fun k h => (v0 h).elim
  · exact fun k h => (v0 h).elim
  · exact fun k h => (v0 h).elim
  · intro w _; rw [z2 8 (by decide)]; exact ⟨by decide, Nat.le_refl 0⟩
  · intro w _; rw [z2 10 (by decide)]; exact ⟨by decide, by decide⟩
  · exact fun k h => (v0 h).elim
  · intro n; exact Or.inl (z2 5 (by decide) n)
  · intro n; exact Or.inl (z2 4 (by decide) n)
  · intro n h; rw [z2 5 (by decide)] at h; exact absurd h (by decide)
  · intro n _; exact z2 4 (by decide) n
  · exact fun i j h => (v0 h).elim
  · exact fun k h => (v0 h).elim
  · exact fun k h => (v0 h).elim
  · rfl
  · intro w; rfl
  · exact fun k h => (v0 h).elim
  · exact fun k h => (v0 h).elim
  · exact Nat.le_refl 0
  · exact fun k h => (v0 h).elim
  · exact fun r q h => (v0 h).elim
  · exact fun k h => (v0 h).elim
  · exact fun i j h => (v0 h).elim
  · exact fun k h => (v0 h).elim
  · exact fun k h => (v0 h).elim
  · intro w _; rw [z2 8 (by decide), t0]; exact ⟨Nat.le_refl 0, fun k h => (v0 h).elim⟩
  · intro w _; rw [z2 10 (by decide), t0]; exact ⟨Nat.le_refl 0, fun k h => (v0 h).elim, fun i j _ h => (v0 h).elim⟩
  · exact fun k h => (v0 h).elim
  · intro c h; cases h
  · intro w; rfl
  · intro w _
    rw [z2 8 (by decide), z2 10 (by decide), t0]
    refine ⟨?_, ?_⟩
    · show (if 24 + 6 * w = 59 then List.replicate 6 (nI 0) else if 24 + 6 * w = 74 then List.replicate 4 (nI 1) else if 24 + 6 * w = 76 then List.replicate 4 (nI 0) else []) = []
      rw [if_neg (by omega), if_neg (by omega), if_neg (by omega)]
    · show (if 27 + 6 * w = 59 then List.replicate 6 (nI 0) else if 27 + 6 * w = 74 then List.replicate 4 (nI 1) else if 27 + 6 * w = 76 then List.replicate 4 (nI 0) else []) = []
      rw [if_neg (by omega), if_neg (by omega), if_neg (by omega)]
  · exact fun k h => (v0 h).elim
  · intro x
    constructor
    · intro h; cases h
    · rintro ⟨r, h, -⟩; exact (v0 h).elim
