def Fr3 (h h' : HP) : Prop := ∀ k, k ≠ 3 → h' k = h k
theorem Fr3.q {h h' : HP} (f : Fr3 h h') : FrQC h h' := fun k i q _ _ => by rw [f k (fun z => q (by rw [z]; unfold sctK; omega))]
