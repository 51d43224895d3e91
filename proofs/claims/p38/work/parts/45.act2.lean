def unitsP (σ : ST) (u : Int) : Prop := (1 ≤ u ∧ u ≤ 100) ∧ σ 0 0 0 + u ≤ 2000
theorem units_c {h : HP} {π : PL} {K u : Int} {s : SD} {im : IM} {t : TX} {P : Int → HP → Prop} (w : WA π K s im t) (ci : CI h π s im t) (hu : inR u)
    (k : ∀ h', FrCm h h' → unitsP s.1 u → CI h' π (setS (keepS s) (goA π u.toNat s.1)) im t → P (goA π u.toNat s.1 0 0 0) h') (kx : ∀ h', FrCm h h' → ¬ unitsP s.1 u → CI h' π s im (refT t 1) → P (-1) h') : wX11_units 0 u h P := by
  have hp := w.1
  have x := ci.lx w
  have t0 := w.2.1.1.1.1
  unfold inR at hu
  have no : ¬ unitsP s.1 u → wX11_refuse 0 1 h (fun x6 h5 => P x6 h5) := fun n => refuse_c ci (by decide) (fun h' f c' => kx h' f n c')
  unfold wX11_units
  rw [show h 6 10 1 = s.1 0 0 0 from x.2.2.2.1.1.1]
  refine ⟨hu, fun c => no (fun v => by have := v.1; omega), fun c => ⟨hu, fun c2 => no (fun v => by have := v.1; omega), fun c2 => ⟨by omega, fun c3 => ?_, fun c3 => no (fun v => c3 v.2)⟩⟩⟩
  refine keepS_c hp ci (fun h1 f1 c1 => ?_)
  have x1 : LX h1 10 π K s.1 := ⟨hp, c1.1, w.2.1.1.1, c1.2.1.1⟩
  refine pass_c x1 (by omega) (fun h2 f2 l2 => ?_)
  rw [l2.1.1.1]
  exact k h2 (fun k hk => by rw [f2.cm k hk, f1 k hk]) ⟨by omega, c3⟩ (c1.line f2 l2)
noncomputable def changeU (π : PL) (σ : ST) (c k a b d : Int) : ST := changeA π σ (hel π σ c) c k a b d
