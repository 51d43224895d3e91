def rc (a : Int) : Int := if a = 12 then -1 else a
def FrV (h h' : HP) : Prop := (∀ k, k ≠ 12 → k ≠ 56 → k ≠ 59 → k ≠ 60 → h' k = h k) ∧ (∀ j, j ≠ 23 → j ≠ 24 → h' 12 7 j = h 12 7 j)
theorem FrV.rf (h : HP) : FrV h h := ⟨fun _ _ _ _ _ => rfl, fun _ _ _ => rfl⟩
theorem FrV.tr {h h' h'' : HP} (a : FrV h h') (b : FrV h' h'') : FrV h h'' := ⟨fun k k1 k2 k3 k4 => by rw [b.1 k k1 k2 k3 k4, a.1 k k1 k2 k3 k4], fun j j1 j2 => by rw [b.2 j j1 j2, a.2 j j1 j2]⟩
