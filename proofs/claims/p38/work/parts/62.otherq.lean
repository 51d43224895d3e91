def AcR (h : HP) (π : PL) (σ : ST) (a : AC) : Prop := h 12 7 43 = a.1 ∧ h 12 7 44 = a.2.1 ∧ ∀ c, 0 ≤ c → c < π 0 0 → h 68 7 c = a.2.2.1 c ∧ (∀ i, 0 ≤ i → i < a.2.2.1 c → 0 ≤ h 69 7 (512 * c + i) ∧ h 69 7 (512 * c + i) ≤ 100000) ∧ ∀ v, a.2.2.2 c v ↔ ∃ i, 0 ≤ i ∧ i < a.2.2.1 c ∧ h 69 7 (512 * c + i) = σ 1 c 0 + v
theorem AcR.fr {h h' : HP} {π : PL} {σ : ST} {a : AC} (q : AcR h π σ a) (f : FrI h h') : AcR h' π σ a := by
  unfold AcR at *
  rw [f.2 43 (by decide) (by decide) (by decide), f.2 44 (by decide) (by decide) (by decide), f.1 68 (by decide) (by decide) (by decide) (by decide) (by decide) (by decide), f.1 69 (by decide) (by decide) (by decide) (by decide) (by decide) (by decide)]; exact q
