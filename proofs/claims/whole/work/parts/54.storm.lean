/-! storms: what does not look at which flows are stopped -/
def u5 (v : Int) (σ : ST) : ST := up σ 0 5 0 v
theorem u5_k {v : Int} {σ : ST} {k : Nat} (h : k ≠ 0) : u5 v σ k = σ k := up_k h
theorem u5_0 {v : Int} {σ : ST} {i : Int} (h : i ≠ 5) : u5 v σ 0 i = σ 0 i := up_i h
theorem u5_up {v w : Int} {σ : ST} {k : Nat} {i j : Int} (h : ¬ (k = 0 ∧ i = 5)) : up (u5 v σ) k i j w = u5 v (up σ k i j w) := by
  unfold u5
  funext k' i' j'
  unfold up upr
  by_cases a : k' = k
  · by_cases b : i' = i
    · by_cases c : k' = 0
      · by_cases d : i' = 5
        · exact absurd ⟨by omega, by omega⟩ h
        · simp [a, b, c, d]
          have : ¬ i = 5 := by omega
          have : k = 0 := by omega
          simp [*]
      · have : ¬ k = 0 := by omega
        simp [a, b, this]
    · by_cases c : k' = 0 <;> by_cases d : i' = 5 <;> simp_all
  · by_cases c : k' = 0 <;> by_cases d : i' = 5 <;> simp_all
