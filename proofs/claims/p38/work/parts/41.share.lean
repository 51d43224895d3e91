theorem chg_ok {π : PL} {K c k m : Int} {σ : ST} (hp : PlanOK π) (inv : AInv π K σ) (c0 : 0 ≤ c) (c1 : c < π 0 0) (hk : k = 1 ∨ k = 2) (hm : 1 ≤ m ∧ m ≤ 100) : wellC m 0 m ∧ (k = 0 → kids π c = 0) ∧ AInv π K (changeA π σ (hel π σ c) c k m 0 m) ∧ changeA π σ (hel π σ c) c k m 0 m 0 = σ 0 ∧ changeA π σ (hel π σ c) c k m 0 m 1 = σ 1 ∧ changeA π σ (hel π σ c) c k m 0 m 6 = σ 6 := by
  have w : wellC m 0 m := by unfold wellC; omega
  exact ⟨w, fun z => by omega, changeA_inv inv c0 c1 (by omega) w (fun z => by omega), changeA_6 0 (by decide), changeA_6 1 (by decide), changeA_6 6 (by decide)⟩
