/-! a curve, a packet, what is due; what is granted -/
noncomputable def curveV (π : PL) (σ : ST) (c k a : Int) : Int × Int :=
  @ite (Int × Int) ((0 ≤ c ∧ c < π 0 0) ∧ (0 ≤ k ∧ k ≤ 2) ∧ 0 < σ 11 (3 * c + k) 0 ∧ (0 ≤ a ∧ a ≤ 2)) (Classical.propDecidable _) (0, if a = 0 then σ 9 (3 * c + k) 0 else if a = 1 then σ 10 (3 * c + k) 0 else σ 11 (3 * c + k) 0) (1, 0)
theorem isCurve_c {a : Int} {h : HP} {P : Int → HP → Prop} (ha : inR a) (k : ∀ y, (y = 0 ∨ y = 1) → (y = 1 ↔ 0 ≤ a ∧ a ≤ 2) → P y h) : wX11_isCurve a h P := by
  unfold inR at ha
  unfold wX11_isCurve
  refine ⟨⟨ha, fun _ => ha⟩, fun t3 h3 => ?_⟩
  have : (t3 = 0 ∨ t3 = 1) ∧ (t3 = 1 ↔ 0 ≤ a ∧ a ≤ 2) := by
    by_cases z : a < 0
    · rw [h3.1 z]; omega
    · by_cases y : 3 ≤ a
      · rw [(h3.2 z).1 y]; omega
      · rw [(h3.2 z).2 y]; omega
  exact ⟨this.1, k t3 this.1 this.2⟩
theorem curve_c {h : HP} {π : PL} {K c kk a : Int} {σ : ST} {P : Int → HP → Prop} {X : Nat → HP → Prop} (x : LX h 10 π K σ) (hc : inR c) (hk : inR kk) (ha : inR a)
    (k : ∀ h' v, FrQC h h' → curveV π σ c kk a = (0, v) → P v h') (kx : ∀ h', FrQC h h' → curveV π σ c kk a = (1, 0) → X 0 h') : wX11_curve 0 c kk a h P X := by
  have n12 := x.1.1.2.1
  unfold wX11_curve
  refine needClass_c x.1 x.2.1 hc (fun cc => isCurve_c hk (fun y hy hq => ⟨by omega, fun z => kx h (FrQC.rf h) (by unfold curveV; rw [if_neg (fun u => by have := hq.mpr u.2.1; omega)]), fun z => ?_⟩)) (fun nc => kx h (FrQC.rf h) (by unfold curveV; rw [if_neg (fun u => nc u.1)]))
  have kk' := hq.mp (by omega)
  refine hasCurve_c x cc.1 cc.2 kk' (fun y2 hy2 hq2 => ⟨by omega, fun z2 => ?_, fun z2 => kx h (FrQC.rf h) (by unfold curveV; rw [if_neg (fun u => by have := hq2.mpr u.2.2.1; omega)])⟩)
  have cu := x.2.2.2.1.2.2.2.2 (3 * c + kk) (by omega) (by omega)
  rw [show c * 3 + kk = 3 * c + kk by omega, cu.1, cu.2.1, cu.2.2.1]
  have yes : ∀ v, (0 ≤ a ∧ a ≤ 2) → (if a = 0 then σ 9 (3 * c + kk) 0 else if a = 1 then σ 10 (3 * c + kk) 0 else σ 11 (3 * c + kk) 0) = v → P v h := fun v ra ev => k h v (FrQC.rf h) (by unfold curveV; rw [if_pos ⟨cc, kk', hq2.mp (by omega), ra⟩, ev])
  refine ⟨ha, fun c0 => ⟨by omega, yes _ (by omega) (by rw [if_pos c0])⟩, fun c0 => ⟨fun c1 => ⟨by omega, yes _ (by omega) (by rw [if_neg c0, if_pos c1])⟩, fun c1 => ⟨fun c2 => ⟨by omega, yes _ (by omega) (by rw [if_neg c0, if_neg c1])⟩, fun c2 => kx h (FrQC.rf h) (by unfold curveV; rw [if_neg (fun u => by have := u.2.2.2; omega)])⟩⟩⟩
theorem curve_r {h : HP} {π : PL} {K c kk a : Int} {σ : ST} {P : Int → HP → Prop} (x0 : RY h π K σ) (hc : inR c) (hk : inR kk) (ha : inR a)
    (k : ∀ h' y e v, OkR h h' e → curveV π σ c kk a = (e, v) → (e = 0 → y = v) → P y h') : wX12_curve 7 c kk a h P := by
  unfold wX12_curve
  intro h1 e1
  have o1 : OkR h h1 0 := by rw [e1]; exact OkR.start x0.2 0
  have x := (x0.ok o1).1
  have n12 := x.1.1.2.1
  have ff : curveV π σ c kk a = (1, 0) → P 0 (up h1 12 7 1 1) := fun ev => k _ 0 1 0 (o1.fail 1) ev (fun z => by omega)
  refine isClass_r x.1 x.2.1 hc (fun y hy hq => ⟨by omega, fun z => fail_r (ff (by unfold curveV; rw [if_neg (fun u => by have := hq.mpr u.1; omega)])), fun z => ?_⟩)
  refine isIn_r hk (by omega) (by omega) (fun y1 hy1 hq1 => ⟨by omega, fun z1 => fail_r (ff (by unfold curveV; rw [if_neg (fun u => by have := hq1.mpr u.2.1; omega)])), fun z1 => ?_⟩)
  refine isIn_r ha (by omega) (by omega) (fun y2 hy2 hq2 => ⟨by omega, fun z2 => fail_r (ff (by unfold curveV; rw [if_neg (fun u => by have := hq2.mpr u.2.2.2; omega)])), fun z2 => ?_⟩)
  have cc := hq.mp (by omega)
  have rk := hq1.mp (by omega)
  have ra := hq2.mp (by omega)
  refine hasCurve_r x cc.1 cc.2 rk (fun y3 hy3 hq3 => ⟨by omega, fun z3 => ?_, fun z3 => fail_r (ff (by unfold curveV; rw [if_neg (fun u => by have := hq3.mpr u.2.2.1; omega)]))⟩)
  have hm := hq3.mp (by omega)
  obtain ⟨f1, f2, f3⟩ := ((x.2.2.2.2.2 c cc.1 cc.2).2.2 kk rk.1 (by omega)).2.1 hm
  unfold wX12_curveAt
  dsimp only
  refine ⟨by omega, k h1 _ 0 _ o1 (by unfold curveV; rw [if_pos ⟨cc, rk, hm, ra⟩]) (fun _ => ?_)⟩
  have a3 : a = 0 ∨ a = 1 ∨ a = 2 := by omega
  rcases a3 with z | z | z <;> subst z
  · rw [if_pos rfl, show 257 * c + 4 * kk + 1 + 0 = 257 * c + 4 * kk + 1 by omega]; exact f1
  · rw [if_neg (by decide), if_pos rfl, show 257 * c + 4 * kk + 1 + 1 = 257 * c + 4 * kk + 2 by omega]; exact f2
  · rw [if_neg (by decide), if_neg (by decide), show 257 * c + 4 * kk + 1 + 2 = 257 * c + 4 * kk + 3 by omega]; exact f3
noncomputable def packetV (π : PL) (σ : ST) (c i : Int) : Int × Int := @ite (Int × Int) ((0 ≤ c ∧ c < π 0 0) ∧ 0 ≤ i ∧ i < σ 6 c 0) (Classical.propDecidable _) (0, σ 7 c i) (1, 0)
theorem packet_c {h : HP} {π : PL} {K c i : Int} {σ : ST} {P : Int → HP → Prop} {X : Nat → HP → Prop} (x : LX h 10 π K σ) (hc : inR c) (hi : inR i)
    (k : ∀ h' v, FrQC h h' → packetV π σ c i = (0, v) → P v h') (kx : ∀ h', FrQC h h' → packetV π σ c i = (1, 0) → X 0 h') : wX11_packet 0 c i h P X := by
  unfold wX11_packet
  refine needClass_c x.1 x.2.1 hc (fun cc => ⟨hi, fun z => kx h (FrQC.rf h) (by unfold packetV; rw [if_neg (fun u => by omega)]), fun z => packets_c x cc.1 cc.2 ?_⟩) (fun nc => kx h (FrQC.rf h) (by unfold packetV; rw [if_neg (fun u => nc u.1)]))
  have q := x.2.2.1.qln c cc.1 cc.2
  exact ⟨hi, by omega, fun y => sizeOf_c x cc.1 cc.2 (by omega) (k h _ (FrQC.rf h) (by unfold packetV; rw [if_pos ⟨cc, by omega, y⟩])), fun y => kx h (FrQC.rf h) (by unfold packetV; rw [if_neg (fun u => y u.2.2)])⟩
theorem packet_r {h : HP} {π : PL} {K c i : Int} {σ : ST} {P : Int → HP → Prop} (x0 : RY h π K σ) (hc : inR c) (hi : inR i)
    (k : ∀ h' y e v, OkR h h' e → packetV π σ c i = (e, v) → (e = 0 → y = v) → P y h') : wX12_packet 7 c i h P := by
  unfold wX12_packet
  intro h1 e1
  have o1 : OkR h h1 0 := by rw [e1]; exact OkR.start x0.2 0
  have x := (x0.ok o1).1
  have n12 := x.1.1.2.1
  have ff : packetV π σ c i = (1, 0) → P 0 (up h1 12 7 1 1) := fun ev => k _ 0 1 0 (o1.fail 1) ev (fun z => by omega)
  refine isClass_r x.1 x.2.1 hc (fun y hy hq => ⟨by omega, fun z => fail_r (ff (by unfold packetV; rw [if_neg (fun u => by have := hq.mpr u.1; omega)])), fun z => ?_⟩)
  have cc := hq.mp (by omega)
  have q := x.2.2.1.qln c cc.1 cc.2
  have rr := x.2.2.2.2.2 c cc.1 cc.2
  rw [rr.1.2.2.2.2.2]
  refine ⟨by omega, isIn_r hi (by omega) (by omega) (fun y1 hy1 hq1 => ⟨by omega, fun z1 => fail_r (ff (by unfold packetV; rw [if_neg (fun u => by have := hq1.mpr (by omega); omega)])), fun z1 => ?_⟩)⟩
  have ii := hq1.mp (by omega)
  rw [rr.2.1 i ii.1 (by omega)]
  exact ⟨by omega, k h1 _ 0 _ o1 (by unfold packetV; rw [if_pos ⟨cc, by omega, by omega⟩]) (fun _ => rfl)⟩
noncomputable def dueV (π : PL) (σ : ST) (c a : Int) : Int × Int :=
  @ite (Int × Int) ((0 ≤ c ∧ c < π 0 0) ∧ (0 ≤ a ∧ a ≤ 2) ∧ 0 < hel π σ c ∧ (a = 2 ∨ 0 < σ 11 (3 * c) 0)) (Classical.propDecidable _) (0, if a = 0 then eligA σ c else if a = 1 then ddlA σ c else fitA π σ c) (1, 0)
theorem due_c {h : HP} {π : PL} {K c a : Int} {σ : ST} {P : Int → HP → Prop} {X : Nat → HP → Prop} (x : LX h 10 π K σ) (hc : inR c) (ha : inR a)
    (k : ∀ h' v, FrQC h h' → dueV π σ c a = (0, v) → P v h') (kx : ∀ h', FrQC h h' → dueV π σ c a = (1, 0) → X 0 h') : wX11_due 0 c a h P X := by
  unfold wX11_due
  refine needClass_c x.1 x.2.1 hc (fun cc => ⟨ha, fun z => kx h (FrQC.rf h) (by unfold dueV; rw [if_neg (fun u => by have := u.2.1; omega)]), fun z => ⟨ha, fun z1 => kx h (FrQC.rf h) (by unfold dueV; rw [if_neg (fun u => by have := u.2.1; omega)]), fun z1 => ?_⟩⟩) (fun nc => kx h (FrQC.rf h) (by unfold dueV; rw [if_neg (fun u => nc u.1)]))
  refine isActive_c x (Or.inl cc) (fun y hy hq => ⟨by omega, fun z2 => ⟨ha, fun z3 => ?_, fun z3 => fitOf_c x cc.1 cc.2 (hq.mp (by omega)) (fun h' f => k h' _ f.q (by unfold dueV; rw [if_pos ⟨cc, by omega, hq.mp (by omega), Or.inl z3⟩, if_neg (by omega), if_neg (by omega)]))⟩, fun z2 => kx h (FrQC.rf h) (by unfold dueV; rw [if_neg (fun u => by have := hq.mpr u.2.2.1; omega)])⟩)
  have act := hq.mp (by omega)
  refine hasCurve_c x (k := 0) cc.1 cc.2 (by omega) (fun y2 hy2 hq2 => ?_)
  rw [show 3 * c + 0 = 3 * c by omega] at hq2
  refine ⟨by omega, fun z4 => ?_, fun z4 => kx h (FrQC.rf h) (by unfold dueV; rw [if_neg (fun u => by have := hq2.mpr (by have := u.2.2.2; omega); omega)])⟩
  have hm := hq2.mp (by omega)
  have kl := (x.2.2.1.2.2.2.2.2.2.1 c cc.1 cc.2).2.2.2.2.2.2.2.1 hm
  have hl := hel_leaf (σ := σ) x.1.1 cc.1 cc.2 kl
  refine ⟨ha, fun z5 => ddl_c x cc.1 cc.2 hm (by omega) (k h _ (FrQC.rf h) ?_), fun z5 => elig_c x cc.1 cc.2 hm (k h _ (FrQC.rf h) ?_)⟩
  · unfold dueV; rw [if_pos ⟨cc, by omega, act, Or.inr hm⟩, if_neg z5, if_pos (by omega)]
  · unfold dueV; rw [if_pos ⟨cc, by omega, act, Or.inr hm⟩, if_pos z5]
theorem due_r {h : HP} {π : PL} {K c a : Int} {σ : ST} {P : Int → HP → Prop} (x0 : RY h π K σ) (hc : inR c) (ha : inR a)
    (k : ∀ h' y e v, OkR h h' e → dueV π σ c a = (e, v) → (e = 0 → y = v) → P y h') : wX12_due 7 c a h P := by
  unfold wX12_due
  intro h1 e1
  have o1 : OkR h h1 0 := by rw [e1]; exact OkR.start x0.2 0
  have x := (x0.ok o1).1
  have n12 := x.1.1.2.1
  have ff : dueV π σ c a = (1, 0) → P 0 (up h1 12 7 1 1) := fun ev => k _ 0 1 0 (o1.fail 1) ev (fun z => by omega)
  refine isClass_r x.1 x.2.1 hc (fun y hy hq => ⟨by omega, fun z => fail_r (ff (by unfold dueV; rw [if_neg (fun u => by have := hq.mpr u.1; omega)])), fun z => ?_⟩)
  refine isIn_r ha (by omega) (by omega) (fun y1 hy1 hq1 => ⟨by omega, fun z1 => fail_r (ff (by unfold dueV; rw [if_neg (fun u => by have := hq1.mpr u.2.1; omega)])), fun z1 => ?_⟩)
  have cc := hq.mp (by omega)
  have ra := hq1.mp (by omega)
  refine active_r x cc.1 cc.2 (fun y2 hy2 hq2 => ⟨by omega, fun z2 => fail_r (ff (by unfold dueV; rw [if_neg (fun u => by have := hq2.mpr u.2.2.1; omega)])), fun z2 => ?_⟩)
  have act := hq2.mp (by omega)
  have go : (a = 2 ∨ 0 < σ 11 (3 * c) 0) → wX12_due_50 7 c a P h1 := by
    intro g
    have ev : dueV π σ c a = (0, if a = 0 then eligA σ c else if a = 1 then ddlA σ c else fitA π σ c) := by unfold dueV; rw [if_pos ⟨cc, ra, act, g⟩]
    unfold wX12_due_50
    refine ⟨ha, fun z3 => ⟨ha, fun z4 => fit_r x 13 cc.1 cc.2 (by omega) (k h1 _ 0 _ o1 ev (fun _ => by rw [if_neg z3, if_neg z4])), fun z4 => ?_⟩, fun z3 => ?_⟩
    · have hm : 0 < σ 11 (3 * c) 0 := by omega
      have kl := (x.2.2.1.2.2.2.2.2.2.1 c cc.1 cc.2).2.2.2.2.2.2.2.1 hm
      have hl := hel_leaf (σ := σ) x.1.1 cc.1 cc.2 kl
      exact ddl_r x cc.1 cc.2 hm (by omega) (k h1 _ 0 _ o1 ev (fun _ => by rw [if_neg z3, if_pos z4]))
    · have hm : 0 < σ 11 (3 * c) 0 := by omega
      exact elig_r x cc.1 cc.2 hm (k h1 _ 0 _ o1 ev (fun _ => by rw [if_pos z3]))
  refine ⟨ha, fun z3 => go (Or.inl (by omega)), fun z3 => hasCurve_r x (k := 0) cc.1 cc.2 (by omega) (fun y3 hy3 hq3 => ?_)⟩
  rw [show 3 * c + 0 = 3 * c by omega] at hq3
  exact ⟨by omega, fun z4 => go (Or.inr (hq3.mp (by omega))), fun z4 => fail_r (ff (by unfold dueV; rw [if_neg (fun u => by have := hq3.mpr (by have := u.2.2.2; omega); omega)]))⟩
noncomputable def boundV (π : PL) (σ : ST) (c b : Int) : Int × Int :=
  @ite (Int × Int) ((0 ≤ c ∧ c < π 0 0) ∧ 0 < σ 11 (3 * c) 0) (Classical.propDecidable _) (if 1 ≤ b ∧ b ≤ 999 then (0, reachA (σ 9 (3 * c) 0) (σ 10 (3 * c) 0) (σ 11 (3 * c) 0) 0 0 b + 64) else (2, 0)) (1, 0)
theorem bound_c {h : HP} {π : PL} {K c b : Int} {σ : ST} {P : Int → HP → Prop} {X : Nat → HP → Prop} (x : LX h 10 π K σ) (hc : inR c) (hb : inR b)
    (k : ∀ h' v, FrQC h h' → boundV π σ c b = (0, v) → P v h') (kx : ∀ h', FrQC h h' → boundV π σ c b = (1, 0) → X 0 h') (kx2 : ∀ h', FrQC h h' → boundV π σ c b = (2, 0) → X 1 h') : wX11_bound 0 c b h P X := by
  unfold wX11_bound
  refine needClass_c x.1 x.2.1 hc (fun cc => hasCurve_c x (k := 0) cc.1 cc.2 (by omega) (fun y hy hq => ?_)) (fun nc => kx h (FrQC.rf h) (by unfold boundV; rw [if_neg (fun u => nc u.1)]))
  rw [show 3 * c + 0 = 3 * c by omega] at hq
  refine ⟨by omega, fun z => ?_, fun z => kx h (FrQC.rf h) (by unfold boundV; rw [if_neg (fun u => by have := hq.mpr u.2; omega)])⟩
  have hm := hq.mp (by omega)
  have sl := x.slot (s := 3 * c) (by omega) (by omega)
  refine needRange_c hb (by unfold inR; omega) (by unfold inR; omega) (fun rb => ?_) (fun nb => kx2 h (FrQC.rf h) (by unfold boundV; rw [if_pos ⟨cc, hm⟩, if_neg nb]))
  rw [show c * 3 + 0 = 3 * c by omega]
  exact rfz_c ⟨by omega, sl.2.2⟩ sl.1 sl.2.1 hm (by omega) (k h _ (FrQC.rf h) (by unfold boundV; rw [if_pos ⟨cc, hm⟩, if_pos rb]))
theorem bound_r {h : HP} {π : PL} {K c b : Int} {σ : ST} {P : Int → HP → Prop} (x0 : RY h π K σ) (hc : inR c) (hb : inR b)
    (k : ∀ h' y e v, OkR h h' e → boundV π σ c b = (e, v) → (e = 0 → y = v) → P y h') : wX12_bound 7 c b h P := by
  unfold wX12_bound
  intro h1 e1
  have o1 : OkR h h1 0 := by rw [e1]; exact OkR.start x0.2 0
  have x := (x0.ok o1).1
  have n12 := x.1.1.2.1
  have ff : boundV π σ c b = (1, 0) → P 0 (up h1 12 7 1 1) := fun ev => k _ 0 1 0 (o1.fail 1) ev (fun z => by omega)
  have ff2 : boundV π σ c b = (2, 0) → P 0 (up h1 12 7 1 2) := fun ev => k _ 0 2 0 (o1.fail 2) ev (fun z => by omega)
  refine isClass_r x.1 x.2.1 hc (fun y hy hq => ⟨by omega, fun z => fail_r (ff (by unfold boundV; rw [if_neg (fun u => by have := hq.mpr u.1; omega)])), fun z => ?_⟩)
  have cc := hq.mp (by omega)
  refine hasCurve_r x (k := 0) cc.1 cc.2 (by omega) (fun y3 hy3 hq3 => ?_)
  rw [show 3 * c + 0 = 3 * c by omega] at hq3
  refine ⟨by omega, fun z4 => ?_, fun z4 => fail_r (ff (by unfold boundV; rw [if_neg (fun u => by have := hq3.mpr u.2; omega)]))⟩
  have hm := hq3.mp (by omega)
  obtain ⟨f1, f2, f3⟩ := ((x.2.2.2.2.2 c cc.1 cc.2).2.2 0 (by omega) (by omega)).2.1 (by rw [show 3 * c + 0 = 3 * c by omega]; exact hm)
  rw [show 3 * c + 0 = 3 * c by omega] at f1 f2 f3
  have w := (x.2.2.1.2.2.2.2.2.2.2.2.2 (3 * c) (by omega) (by omega)).1.2 hm
  unfold wellC at w
  unfold wX12_curveAt
  dsimp only
  refine isIn_r hb (by omega) (by omega) (fun y5 hy5 hq5 => ⟨by omega, fun z5 => fail_r (ff2 (by unfold boundV; rw [if_pos ⟨cc, hm⟩, if_neg (fun u => by have := hq5.mpr u; omega)])), fun z5 => ?_⟩)
  have rb := hq5.mp (by omega)
  rw [f1, f2, f3]
  exact ⟨by omega, by omega, by omega, reach_r (by omega) (by omega) (by omega) (by omega) (by omega) (k h1 _ 0 _ o1 (by unfold boundV; rw [if_pos ⟨cc, hm⟩, if_pos rb]) (fun _ => rfl))⟩
