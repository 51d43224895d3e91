/-! then, next -/
noncomputable def thenW (π : PL) (τ : ST) (c a : Int) : Int := if a = 0 then τ 1 c 0 else if a = 1 then τ 6 c 0 else if a = 2 then τ 3 c 0 else if a = 3 then τ 2 c 0 else if a = 4 then τ 5 c 0 else if 0 < hel π τ c then 1 else 0
noncomputable def thenV (π : PL) (σ : ST) (c u a : Int) : Int × Int := @ite (Int × Int) ((0 ≤ c ∧ c < π 0 0) ∧ 0 ≤ a ∧ a ≤ 5) (Classical.propDecidable _) (if 0 ≤ u ∧ u ≤ 400 then (0, thenW π (goA π u.toNat σ) c a) else (2, 0)) (1, 0)
theorem LX.f12 {h h' : HP} {π : PL} {K : Int} {σ : ST} (x : LX h 10 π K σ) (f : FrL 12 h h') : LX h' 10 π K σ := x.fr f (by decide)
theorem then_c {h : HP} {π : PL} {K c u a : Int} {σ : ST} {P : Int → HP → Prop} {X : Nat → HP → Prop} (x : LX h 10 π K σ) (hT : σ 0 0 0 ≤ 2000) (hc : inR c) (hu : inR u) (ha : inR a)
    (k : ∀ h' v, FrQC h h' → thenV π σ c u a = (0, v) → P v h') (kx : ∀ h', FrQC h h' → thenV π σ c u a = (1, 0) → X 0 h') (kx2 : ∀ h', FrQC h h' → thenV π σ c u a = (2, 0) → X 1 h') : wX11_then 0 c u a h P X := by
  have n12 := x.1.1.2.1
  unfold wX11_then
  refine needClass_c x.1 x.2.1 hc (fun cc => ⟨ha, fun z => kx h (FrQC.rf h) (by unfold thenV; rw [if_neg (fun u => by have := u.2; omega)]), fun z => ⟨ha, fun z1 => ?_, fun z1 => kx h (FrQC.rf h) (by unfold thenV; rw [if_neg (fun u => by have := u.2; omega)])⟩⟩) (fun nc => kx h (FrQC.rf h) (by unfold thenV; rw [if_neg (fun u => nc u.1)]))
  refine needRange_c hu (by unfold inR; omega) (by unfold inR; omega) (fun ru => ?_) (fun nu => kx2 h (FrQC.rf h) (by unfold thenV; rw [if_pos ⟨cc, by omega⟩, if_neg nu]))
  unfold wX2_behind
  refine copyL_c (by decide) x.1 x.2.1 x.2.2.2 (fun h1 f1 l1 => ?_)
  have x1 := x.cp f1 x.2.2.1 l1
  refine pass_c x1 (by omega) (fun h2 f2 l2 => ?_)
  have gi := goA_inv x.1 u.toNat x.2.2.1 (by omega)
  have x2 := x.cp (f1.tr f2) gi.1 l2
  have ev : ∀ h' v, FrQC h2 h' → thenW π (goA π u.toNat σ) c a = v → P v h' := fun h' v f e => k h' v ((f1.tr f2).q.tr f) (by unfold thenV; rw [if_pos ⟨cc, by omega⟩, if_pos ru, e])
  have lc := l2.1.2.1 c cc.1 cc.2
  rw [lc.1, lc.2.1, lc.2.2.1, lc.2.2.2.1]
  have r := FrQC.rf h2
  refine ⟨ha, fun c0 => ⟨by omega, ev h2 _ r (by unfold thenW; rw [if_pos c0])⟩, fun c0 => ⟨fun c1 => packets_c x2 cc.1 cc.2 (ev h2 _ r (by unfold thenW; rw [if_neg c0, if_pos c1])), fun c1 => ⟨fun c2 => ⟨by omega, ev h2 _ r (by unfold thenW; rw [if_neg c0, if_neg c1, if_pos c2])⟩, fun c2 => ⟨fun c3 => ⟨by omega, ev h2 _ r (by unfold thenW; rw [if_neg c0, if_neg c1, if_neg c2, if_pos c3])⟩, fun c3 => ⟨fun c4 => ⟨by omega, ev h2 _ r (by unfold thenW; rw [if_neg c0, if_neg c1, if_neg c2, if_neg c3, if_pos c4])⟩, fun c4 => isActive_c x2 (Or.inl cc) (fun y hy hq => ⟨by omega, fun t18 h18 => ev h2 _ r ?_⟩)⟩⟩⟩⟩⟩
  unfold thenW
  rw [if_neg c0, if_neg c1, if_neg c2, if_neg c3, if_neg c4]
  by_cases z : y = 0
  · rw [if_neg (fun u => by have := hq.mpr u; omega), h18.1 z]
  · rw [if_pos (hq.mp (by omega)), h18.2 z]
theorem OkR.two {h h1 h' : HP} {e : Int} (o : OkR h h1 e) (f : FrQR h1 h') (i : IdleR h') (ec : h' 12 7 1 = h1 12 7 1) : OkR h h' e := ⟨o.1.tr f, i, by rw [ec]; exact o.2.2⟩
theorem then_r {h : HP} {π : PL} {K c u a : Int} {σ : ST} {P : Int → HP → Prop} (x0 : RY h π K σ) (hT : σ 0 0 0 ≤ 2000) (hc : inR c) (hu : inR u) (ha : inR a)
    (k : ∀ h' y e v, OkR h h' e → thenV π σ c u a = (e, v) → (e = 0 → y = v) → P y h') : wX12_then 7 c u a h P := by
  unfold wX12_then
  intro h1 e1
  have o1 : OkR h h1 0 := by rw [e1]; exact OkR.start x0.2 0
  have y1 := x0.ok o1
  have x := y1.1
  have n12 := x.1.1.2.1
  have ff : thenV π σ c u a = (1, 0) → P 0 (up h1 12 7 1 1) := fun ev => k _ 0 1 0 (o1.fail 1) ev (fun z => by omega)
  have ff2 : thenV π σ c u a = (2, 0) → P 0 (up h1 12 7 1 2) := fun ev => k _ 0 2 0 (o1.fail 2) ev (fun z => by omega)
  refine isClass_r x.1 x.2.1 hc (fun y hy hq => ⟨by omega, fun z => fail_r (ff (by unfold thenV; rw [if_neg (fun u => by have := hq.mpr u.1; omega)])), fun z => ?_⟩)
  have cc := hq.mp (by omega)
  refine isIn_r ha (by omega) (by omega) (fun y3 hy3 hq3 => ⟨by omega, fun z3 => ?_, fun z3 => fail_r (ff (by unfold thenV; rw [if_neg (fun u => by have := hq3.mpr u.2; omega)]))⟩)
  have ra := hq3.mp (by omega)
  refine isIn_r hu (by omega) (by omega) (fun y5 hy5 hq5 => ⟨by omega, fun z5 => ?_, fun z5 => fail_r (ff2 (by unfold thenV; rw [if_pos ⟨cc, ra⟩, if_neg (fun u => by have := hq5.mpr u; omega)]))⟩)
  have ru := hq5.mp (by omega)
  refine remember_s (fun h16 f16 s16 => ?_)
  have i16 : IdleR h16 := y1.2.f12 (by rw [f16 12 (by decide)])
  refine goOn0_r (x.f63 f16) i16 (by omega) (fun h17 f17 i17 x17 => ?_)
  have s17 := s16.u f17
  have rr := (x17.2.2.2.2.2 c cc.1 cc.2).1
  have ev : ∀ v, thenW π (goA π u.toNat σ) c a = v → wX12_back 7 v h17 (fun x34 h33 => P x34 h33) := by
    intro v e
    refine back_s s17 (fun h' g1 g2 g3 => k h' v 0 v (o1.two g2 (i17.f12 (by rw [g1 12 (by decide)])) ?_) (by unfold thenV; rw [if_pos ⟨cc, ra⟩, if_pos ru, e]) (fun _ => rfl))
    rw [g1 12 (by decide), f17.2 1 (by decide) (by decide) (by decide), f16 12 (by decide)]
  rw [rr.1, rr.2.1, rr.2.2.1, rr.2.2.2.2.1, rr.2.2.2.2.2]
  refine ⟨ha, fun c0 => ⟨ha, fun c1 => ⟨ha, fun c2 => ⟨ha, fun c3 => ⟨ha, fun c4 => active_r x17 cc.1 cc.2 (fun y7 hy7 hq7 => ⟨by omega, fun t31 h31 => ev t31 ?_⟩), fun c4 => ⟨by omega, ev _ (by unfold thenW; rw [if_neg c0, if_neg c1, if_neg c2, if_neg c3, if_pos c4])⟩⟩, fun c3 => ⟨by omega, ev _ (by unfold thenW; rw [if_neg c0, if_neg c1, if_neg c2, if_pos c3])⟩⟩, fun c2 => ⟨by omega, ev _ (by unfold thenW; rw [if_neg c0, if_neg c1, if_pos c2])⟩⟩, fun c1 => ⟨by omega, ev _ (by unfold thenW; rw [if_neg c0, if_pos c1])⟩⟩, fun c0 => ⟨by omega, ev _ (by unfold thenW; rw [if_pos c0])⟩⟩
  unfold thenW
  rw [if_neg c0, if_neg c1, if_neg c2, if_neg c3, if_neg c4]
  by_cases z : y7 = 0
  · rw [if_neg (fun u => by have := hq7.mpr u; omega), h31.1 z]
  · rw [if_pos (hq7.mp (by omega)), h31.2 z]
/-! next -/
def nxS (a left : Int) (σ τ : ST) : Sum Int Int := if left - (τ 0 2 0 - σ 0 2 0) = 0 then Sum.inr (if a = 0 then τ 0 4 0 else if a = 1 then τ 0 0 0 - 1 else τ 0 3 0 - σ 0 3 0) else Sum.inl (left - (τ 0 2 0 - σ 0 2 0))
noncomputable def nextV (π : PL) (σ : ST) (i a : Int) : Int × Int := if 0 ≤ a ∧ a ≤ 2 then (if 1 ≤ i ∧ i ≤ 20 then (0, runA π (nxS a) (fun _ => -1) 400 σ i) else (2, 0)) else (1, 0)
theorem goA_at {π : PL} {K : Int} {σ : ST} (hp : PlanOK π) (inv : AInv π K σ) (hT : σ 0 0 0 ≤ 2000) {m : Nat} (hm : m ≤ 700) : AInv π K (goA π m σ) ∧ goA π m σ 0 0 0 = σ 0 0 0 + m := ⟨(goA_inv hp m inv (by omega)).1, (goA_inv hp m inv (by omega)).2.1⟩
theorem chosenAt_c {h : HP} {π : PL} {K i a : Int} {σ : ST} {P : Int → HP → Prop} (x : LX h 10 π K σ) (hT : σ 0 0 0 ≤ 2000) (ri : 1 ≤ i ∧ i ≤ 20) (ha : 0 ≤ a ∧ a ≤ 2) (k : ∀ h', FrL 12 h h' → P (runA π (nxS a) (fun _ => -1) 400 σ i) h') : wX2_chosenAt 0 i a h P := by
  have inv := x.2.2.1
  have t0 := inv.1
  have c0 := inv.2.2.1
  unfold wX2_chosenAt
  refine copyL_c (by decide) x.1 x.2.1 x.2.2.2 (fun h1 f1 l1 => ?_)
  have e10 : h1 6 10 1 = σ 0 0 0 := (x.f12 f1).2.2.2.1.1.1
  rw [e10]
  have loop : ∀ (d m : Nat) (l4 left : Int) (hh : HP), 400 - m ≤ d → m ≤ 400 → 0 ≤ l4 → l4 ≤ m → FrL 12 h hh → LineC hh 12 π (goA π m σ) → left = i - (goA π m σ 0 2 0 - σ 0 2 0) → left ≠ 0 → runA π (nxS a) (fun _ => -1) (400 - m) (goA π m σ) left = runA π (nxS a) (fun _ => -1) 400 σ i →
      wX2_chosenAt_26 0 i a (σ 0 0 0 + 400) (fun h12 => P (-1) h12) (fun l13 h14 => (-2147483648 ≤ a ∧ a < 2147483648) ∧ ((a = 0 → P (h14 6 12 5) h14) ∧ (¬ a = 0 → ((a = 1 → P ((h14 6 12 1) - 1) h14) ∧ (¬ a = 1 → P ((h14 6 12 4) - l13) h14))))) (d + 1) l4 hh := by
    intro d
    induction d with
    | zero =>
      intro m l4 left hh hd hm hl0 hl1 fr lc hl hn hv
      have em : m = 400 := by omega
      subst em
      have ga := (goA_at x.1 inv hT (m := 400) (by omega)).2
      have tt : hh 6 12 1 = σ 0 0 0 + 400 := by rw [lc.1.1.1, ga]; rfl
      have ev : (-1 : Int) = runA π (nxS a) (fun _ => -1) 400 σ i := by rw [← hv]; rfl
      rw [wX2_chosenAt_26, tt]
      exact ⟨by omega, fun _ => by rw [ev]; exact k hh fr, fun _ => ⟨by omega, by omega, fun _ => by rw [ev]; exact k hh fr, fun c => absurd (Int.le_refl _) c⟩⟩
    | succ d ih =>
      intro m l4 left hh hd hm hl0 hl1 fr lc hl hn hv
      have ga := goA_at x.1 inv hT (m := m) (by omega)
      have tt : hh 6 12 1 = σ 0 0 0 + m := by rw [lc.1.1.1, ga.2]
      have ends : m = 400 → P (-1) hh := by
        intro em
        subst em
        have ev : (-1 : Int) = runA π (nxS a) (fun _ => -1) 400 σ i := by rw [← hv]; rfl
        rw [ev]; exact k hh fr
      rw [wX2_chosenAt_26, tt]
      refine ⟨by omega, fun c => ends (by omega), fun c => ⟨by omega, by omega, fun c2 => ends (by omega), fun c2 => ?_⟩⟩
      have xl := x.cp fr ga.1 lc
      generalize hρ : goA π m σ = ρ at *
      refine advance_c xl (by omega) (fun h7 n f7 n1 n2 l7 q7 => ?_)
      have hs : ∀ τ : ST, (∀ k, k ≠ 0 → τ k = ρ k) → (∀ i, i ≠ 0 → i ≠ 1 → τ 0 i 0 = ρ 0 i 0) → nxS a left τ (tickA τ) = Sum.inl left := by
        intro τ _ _
        unfold nxS
        rw [tickA_0 (by decide) (by decide), show left - (τ 0 2 0 - τ 0 2 0) = left by omega, if_neg hn]
      obtain ⟨τ, g1, g2, g3, g4, g5, g6⟩ := runA_adv (fin := fun _ => -1) (D := 400 - m) (n := n) ga.1.2.1.1 q7 hs n1 (by omega)
      have gm : goA π n ρ = goA π (m + n) σ := by rw [← hρ, goA_add]
      have ga2 := goA_at x.1 inv hT (m := m + n) (by omega)
      have fr7 := fr.tr f7
      have e710 : h7 6 10 3 = σ 0 2 0 := (x.f12 fr7).2.2.2.1.1.2.2.1
      have e712 : h7 6 12 3 = unitA π τ 0 2 0 := by rw [l7.1.1.2.2.1, g5]
      have cb := ga2.1.2.2.1
      rw [← gm, g5] at cb
      have t2 := ga2.1.1
      rw [← gm, g5] at t2
      have τ2 : τ 0 2 0 = ρ 0 2 0 := g2 2 (by decide) (by decide)
      rw [e710, e712]
      refine ⟨by omega, by omega, fun c3 => ?_, fun c3 => ?_⟩
      · have st : nxS a left τ (unitA π τ) = Sum.inl (left - (unitA π τ 0 2 0 - τ 0 2 0)) := by unfold nxS; rw [if_neg (by omega)]
        rw [g6, runA_l st] at hv
        rw [g5] at l7 gm
        refine ih (m + n) (l4 + 1) (left - (unitA π τ 0 2 0 - τ 0 2 0)) h7 (by omega) (by omega) (by omega) (by omega) fr7 (by rw [← gm]; exact l7) (by rw [← gm]; omega) (by omega) ?_
        rw [← gm, ← hv, show 400 - (m + n) = 400 - m - n by omega]
      · have st : nxS a left τ (unitA π τ) = Sum.inr (if a = 0 then unitA π τ 0 4 0 else if a = 1 then unitA π τ 0 0 0 - 1 else unitA π τ 0 3 0 - τ 0 3 0) := by unfold nxS; rw [if_pos (by omega)]
        rw [g6, runA_r st] at hv
        have ln := l7.1.1
        rw [g5] at ln
        have l4' : hh 6 12 4 = τ 0 3 0 := by rw [lc.1.1.2.2.2.1, g2 3 (by decide) (by decide)]
        rw [ln.2.2.2.2.1, ln.1, ln.2.2.2.1, l4']
        refine ⟨by omega, fun d0 => ?_, fun d0 => ⟨fun d1 => ?_, fun d1 => ?_⟩⟩
        · rw [if_pos d0] at hv; rw [hv]; exact k h7 fr7
        · rw [if_neg d0, if_pos d1] at hv; rw [hv]; exact k h7 fr7
        · rw [if_neg d0, if_neg d1] at hv; rw [hv]; exact k h7 fr7
  exact ⟨_, loop 400 0 0 i h1 (by omega) (by omega) (by omega) (by omega) f1 l1 (by show i = i - (σ 0 2 0 - σ 0 2 0); omega) (by omega) rfl⟩
theorem next_c {h : HP} {π : PL} {K i a : Int} {σ : ST} {P : Int → HP → Prop} {X : Nat → HP → Prop} (x : LX h 10 π K σ) (hT : σ 0 0 0 ≤ 2000) (hi : inR i) (ha : inR a)
    (k : ∀ h' v, FrQC h h' → nextV π σ i a = (0, v) → P v h') (kx : ∀ h', FrQC h h' → nextV π σ i a = (1, 0) → X 0 h') (kx2 : ∀ h', FrQC h h' → nextV π σ i a = (2, 0) → X 1 h') : wX11_next 0 i a h P X := by
  unfold wX11_next
  refine ⟨ha, fun c => kx h (FrQC.rf h) (by unfold nextV; rw [if_neg (by omega)]), fun c => ⟨ha, fun c2 => needRange_c hi (by unfold inR; omega) (by unfold inR; omega) (fun ri => chosenAt_c x hT ri (by omega) (fun h' f => k h' _ f.q (by unfold nextV; rw [if_pos (by omega), if_pos ri]))) (fun nr => kx2 h (FrQC.rf h) (by unfold nextV; rw [if_pos (by omega), if_neg nr])), fun c2 => kx h (FrQC.rf h) (by unfold nextV; rw [if_neg (by omega)])⟩⟩
theorem next_r {h : HP} {π : PL} {K i a : Int} {σ : ST} {P : Int → HP → Prop} (x0 : RY h π K σ) (hT : σ 0 0 0 ≤ 2000) (hi : inR i) (ha : inR a)
    (k : ∀ h' y e v, OkR h h' e → nextV π σ i a = (e, v) → (e = 0 → y = v) → P y h') : wX12_next 7 i a h P := by
  unfold wX12_next
  intro h1 e1
  have o1 : OkR h h1 0 := by rw [e1]; exact OkR.start x0.2 0
  have y1 := x0.ok o1
  have x := y1.1
  refine isIn_r ha (by omega) (by omega) (fun y3 hy3 hq3 => ⟨by omega, fun z3 => ?_, fun z3 => fail_r (k _ 0 1 0 (o1.fail 1) (by unfold nextV; rw [if_neg (fun u => by have := hq3.mpr u; omega)]) (fun z => by omega))⟩)
  have ra := hq3.mp (by omega)
  refine isIn_r hi (by omega) (by omega) (fun y5 hy5 hq5 => ⟨by omega, fun z5 => ?_, fun z5 => fail_r (k _ 0 2 0 (o1.fail 2) (by unfold nextV; rw [if_pos ra, if_neg (fun u => by have := hq5.mpr u; omega)]) (fun z => by omega))⟩)
  have ri := hq5.mp (by omega)
  refine remember_s (fun h10 f10 s10 => ?_)
  have i10 : IdleR h10 := y1.2.f12 (by rw [f10 12 (by decide)])
  have x10 := x.f63 f10
  have fin : ∀ (hh : HP) (v : Int), FrS h1 hh → IdleR hh → hh 12 7 1 = h1 12 7 1 → v = runA π (nxS a) (fun _ => -1) 400 σ i → wX12_back 7 v hh (fun x24 h23 => P x24 h23) := by
    intro hh v s ii ec e
    refine back_s s (fun h' g1 g2 g3 => k h' v 0 v (o1.two g2 (ii.f12 (by rw [g1 12 (by decide)])) (by rw [g1 12 (by decide)]; exact ec)) (by unfold nextV; rw [if_pos ra, if_pos ri, e]) (fun _ => rfl))
  have loop : ∀ (d : Nat) (m left : Int) (hh : HP) (ρ : ST), (400 - m).toNat = d → 0 ≤ m → m ≤ 400 → FrS h1 hh → IdleR hh → hh 12 7 1 = h1 12 7 1 → RX hh π K ρ → ρ 0 0 0 = σ 0 0 0 + m → (1 ≤ left ∧ left ≤ 20) → runA π (nxS a) (fun _ => -1) d ρ left = runA π (nxS a) (fun _ => -1) 400 σ i →
      wX12_next_45 7 i a (fun h22 => wX12_back 7 (-1) h22 (fun x24 h23 => P x24 h23)) (fun h25 => ((-2147483648 ≤ a ∧ a < 2147483648) ∧ (¬ a = 0 → ((-2147483648 ≤ a ∧ a < 2147483648) ∧ (¬ a = 1 → (-2147483648 ≤ h25 12 7 28 ∧ h25 12 7 28 < 2147483648))))) ∧ ∀ t29 : Int, ((¬ a = 0 → ((¬ a = 1 → ((h25 12 7 28 = 0 → t29 = 0) ∧ (¬ h25 12 7 28 = 0 → t29 = 1))) ∧ (a = 1 → t29 = (h25 56 7 3084) - 1))) ∧ (a = 0 → t29 = h25 12 7 26)) → wX12_back 7 t29 h25 (fun x32 h31 => P x32 h31)) (d + 1) left m hh := by
    intro d
    induction d with
    | zero =>
      intro m left hh ρ hd m0 m1 s ii ec xx tt hl hv
      rw [wX12_next_45]
      exact ⟨by omega, fun _ => fin hh _ s ii ec (by rw [← hv]; rfl), fun c => absurd (by omega) c⟩
    | succ d ih =>
      intro m left hh ρ hd m0 m1 s ii ec xx tt hl hv
      have hd1 : (400 - (m + 1)).toNat = d := by omega
      rw [wX12_next_45]
      refine ⟨by omega, fun c => absurd c (by omega), fun _ => unit0_r xx ii (by omega) (fun h' u1 u2 u3 u4 u5 => ?_)⟩
      obtain ⟨w1, w2, w3, w4, w5⟩ := unit_ch x.1 xx.2.2.1
      have n12 := x.1.1.2.1
      have s' := s.u u1
      have ec' : h' 12 7 1 = h1 12 7 1 := by rw [u1.2 1 (by decide) (by decide) (by decide)]; exact ec
      rw [u4]
      refine ⟨by omega, fun t15 h15 => ?_⟩
      have et : t15 = unitA π ρ 0 2 0 - ρ 0 2 0 := by
        by_cases c : chU π ρ = -1
        · rw [if_pos c] at w2; rw [h15.2 c]; omega
        · rw [if_neg c] at w2; rw [h15.1 c]; omega
      have t01 : 0 ≤ t15 ∧ t15 ≤ 1 := by
        by_cases c : chU π ρ = -1
        · rw [h15.2 c]; omega
        · rw [h15.1 c]; omega
      refine ⟨by omega, fun c => ?_, fun c => ?_⟩
      · have st : nxS a left ρ (unitA π ρ) = Sum.inl (left - t15) := by unfold nxS; rw [← et, if_neg c]
        rw [runA_l st] at hv
        exact ih (m + 1) (left - t15) h' _ hd1 (by omega) (by omega) s' u2 ec' u3 (by rw [(unitA_time x.1 xx.2.2.1).1]; omega) (by omega) hv
      · have cn : chU π ρ ≠ -1 := fun c2 => by have := h15.2 c2; omega
        have st : nxS a left ρ (unitA π ρ) = Sum.inr (if a = 0 then unitA π ρ 0 4 0 else if a = 1 then unitA π ρ 0 0 0 - 1 else unitA π ρ 0 3 0 - ρ 0 3 0) := by unfold nxS; rw [← et, if_pos c]
        rw [runA_r st] at hv
        have e28 := (u5 cn).1
        have g01 : chG π (tellsA π (π 0 1).toNat ρ) = 0 ∨ chG π (tellsA π (π 0 1).toNat ρ) = 1 := by unfold chG; split; exact Or.inr rfl; exact Or.inl rfl
        rw [if_neg cn] at w5
        rw [e28, u3.2.2.2.1.1]
        refine ⟨⟨ha, fun _ => ⟨ha, fun _ => by omega⟩⟩, fun t29 h29 => fin h' t29 s' u2 ec' ?_⟩
        rw [← hv]
        by_cases d0 : a = 0
        · rw [if_pos d0, h29.2 d0, w3 cn]
        · rw [if_neg d0]
          by_cases d1 : a = 1
          · rw [if_pos d1, (h29.1 d0).2 d1]
          · rw [if_neg d1, w5]
            rcases g01 with g | g
            · rw [((h29.1 d0).1 d1).1 g, g]; omega
            · rw [((h29.1 d0).1 d1).2 (by omega), g]; omega
  exact ⟨_, loop 400 0 i h10 σ rfl (by omega) (by omega) s10 i10 (by rw [f10 12 (by decide)]) x10 (by omega) ri rfl⟩
