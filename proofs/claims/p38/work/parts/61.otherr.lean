def FrI (h h' : HP) : Prop := (∀ k, k ≠ 12 → k ≠ 56 → k ≠ 59 → k ≠ 60 → k ≠ 61 → k ≠ 67 → h' k = h k) ∧ (∀ j, (j < 23 ∨ 28 < j ∨ j = 25) → j ≠ 31 → j ≠ 33 → h' 12 7 j = h 12 7 j)
theorem FrI.rf (h : HP) : FrI h h := ⟨fun _ _ _ _ _ _ _ => rfl, fun _ _ _ _ => rfl⟩
theorem FrI.tr {h h' h'' : HP} (a : FrI h h') (b : FrI h' h'') : FrI h h'' := ⟨fun k k1 k2 k3 k4 k5 k6 => by rw [b.1 k k1 k2 k3 k4 k5 k6, a.1 k k1 k2 k3 k4 k5 k6], fun j j1 j2 j3 => by rw [b.2 j j1 j2 j3, a.2 j j1 j2 j3]⟩
