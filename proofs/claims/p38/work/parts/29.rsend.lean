def FrC (h h' : HP) : Prop := (∀ k, k ≠ 12 → k ≠ 56 → h' k = h k) ∧ (∀ j, j ≠ 26 → j ≠ 27 → j ≠ 28 → h' 12 7 j = h 12 7 j)
