noncomputable def dueV (π : PL) (σ : ST) (c a : Int) : Int × Int :=
  @ite (Int × Int) ((0 ≤ c ∧ c < π 0 0) ∧ (0 ≤ a ∧ a ≤ 2) ∧ 0 < hel π σ c ∧ (a = 2 ∨ 0 < σ 11 (3 * c) 0)) (Classical.propDecidable _) (0, if a = 0 then eligA σ c else if a = 1 then ddlA σ c else fitA π σ c) (1, 0)
theorem due_c {h : HP} {π : PL} {K c a : Int} {σ : ST} {P : Int → HP → Prop} {X : Nat → HP → Prop} (x : LX h 10 π K σ) (hc : inR c) (ha : inR a)
    (k : ∀ h' v, FrQC h h' → dueV π σ c a = (0, v) → P v h') (kx : ∀ h', FrQC h h' → dueV π σ c a = (1, 0) → X 0 h') : wX11_due 0 c a h P X := by
  unfold wX11_due
  refine needClass_c x.1 x.2.1 hc (fun cc => ⟨ha, fun z => kx h (FrQC.rf h) (by unfold dueV; rw [if_neg (fun u => by have := u.2.1; omega)]), fun z => ⟨ha, fun z1 => kx h (FrQC.rf h) (by unfold dueV; rw [if_neg (fun u => by have := u.2.1; omega)]), fun z1 => ?_⟩⟩) (fun nc => kx h (FrQC.rf h) (by unfold dueV; rw [if_neg (fun u => nc u.1)]))
  refine isActive_c x (Or.inl cc) (fun y hy hq => ⟨by omega, fun z2 => ⟨ha, fun z3 => ?_, fun z3 => fitOf_c x cc.1 cc.2 (hq.mp (by omega)) (fun h' f => k h' _ f.q (by unfold dueV; rw [if_pos ⟨cc, by omega, hq.mp (by omega), Or.inl z3⟩, if_neg (by omega), if_neg (by omega)]))⟩, fun z2 => kx h (FrQC.rf h) (by unfold dueV; rw [if_neg (fun u => by have := hq.mpr u.2.2.1; omega)])⟩)
  have act := hq.mp (by omega)
  refine hasCurve_c x (k := 0) cc.1 cc.2 (by omega) (fun y2 hy2 hq2 => ?_)
  rw [show 3 * c + 0 = 3 * c by omega] at hq2
  refine ⟨by omega, fun z4 => ?_, fun z4 => kx h (FrQC.rf h) (by unfold dueV; rw [if_neg (fun u => by have := hq2.mpr (by have := u.2.2.2; omega); omega)])⟩
  have hm := hq2.mp (by omega)
  have kl := (x.2.2.1.2.2.2.2.2.2.1 c cc.1 cc.2).2.2.2.2.2.2.2.1 hm
  have hl := hel_leaf (σ := σ) x.1.1 cc.1 cc.2 kl
  refine ⟨ha, fun z5 => ddl_c x cc.1 cc.2 hm (by omega) (k h _ (FrQC.rf h) ?_), fun z5 => elig_c x cc.1 cc.2 hm (k h _ (FrQC.rf h) ?_)⟩
  · unfold dueV; rw [if_pos ⟨cc, by omega, act, Or.inr hm⟩, if_neg z5, if_pos (by omega)]
  · unfold dueV; rw [if_pos ⟨cc, by omega, act, Or.inr hm⟩, if_pos z5]
