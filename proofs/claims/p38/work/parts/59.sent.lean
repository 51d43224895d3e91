def szOK (π : PL) (σ : ST) : Prop := ∀ f, 0 ≤ f → f < π 0 1 → σ 8 f 0 = π 5 f
abbrev AC : Type := Int × Int × (Int → Int) × (Int → Int → Prop)
noncomputable def sntA (π : PL) (σ : ST) (f z c : Int) : Int := goA π 50 (sizA σ f z) 1 c 0 - σ 1 c 0
noncomputable def putO (π : PL) (σ : ST) (f z : Int) (a : AC) : AC :=
  (a.1 + 1, if a.1 = 0 then 100 * f + z else a.2.1, fun c => @ite Int (a.2.2.2 c (sntA π σ f z c)) (Classical.propDecidable _) (a.2.2.1 c) (a.2.2.1 c + 1), fun c v => a.2.2.2 c v ∨ v = sntA π σ f z c)
def ACok (b : Int) (a : AC) : Prop := (0 ≤ a.1 ∧ a.1 ≤ b) ∧ (a.2.1 = -1 ↔ a.1 = 0) ∧ (-1 ≤ a.2.1 ∧ a.2.1 ≤ 1000) ∧ ∀ c, 0 ≤ a.2.2.1 c ∧ a.2.2.1 c ≤ a.1
theorem ACok.mono {b b' : Int} {a : AC} (h : ACok b a) (q : b ≤ b') : ACok b' a := ⟨⟨h.1.1, by have := h.1.2; omega⟩, h.2⟩
theorem ACok.put {π : PL} {σ : ST} {b f z : Int} {a : AC} (h : ACok b a) (f0 : 0 ≤ f ∧ f < 8) (z0 : 1 ≤ z ∧ z ≤ 64) : ACok (b + 1) (putO π σ f z a) := by
  obtain ⟨h1, h2, h3, h4⟩ := h
  refine ⟨?_, ?_, ?_, fun c => ?_⟩
  · show 0 ≤ a.1 + 1 ∧ a.1 + 1 ≤ b + 1; omega
  · show (if a.1 = 0 then 100 * f + z else a.2.1) = -1 ↔ a.1 + 1 = 0
    split <;> omega
  · show -1 ≤ (if a.1 = 0 then 100 * f + z else a.2.1) ∧ (if a.1 = 0 then 100 * f + z else a.2.1) ≤ 1000
    split <;> omega
  · have := h4 c
    show 0 ≤ @ite Int (a.2.2.2 c (sntA π σ f z c)) (Classical.propDecidable _) (a.2.2.1 c) (a.2.2.1 c + 1) ∧ @ite Int (a.2.2.2 c (sntA π σ f z c)) (Classical.propDecidable _) (a.2.2.1 c) (a.2.2.1 c + 1) ≤ a.1 + 1
    split <;> omega
