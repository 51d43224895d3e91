/-! units, change, empty -/
def unitsP (σ : ST) (u : Int) : Prop := (1 ≤ u ∧ u ≤ 100) ∧ σ 0 0 0 + u ≤ 2000
theorem units_c {h : HP} {π : PL} {K u : Int} {s : SD} {im : IM} {t : TX} {P : Int → HP → Prop} (w : WA π K s im t) (ci : CI h π s im t) (hu : inR u)
    (k : ∀ h', FrCm h h' → unitsP s.1 u → CI h' π (setS (keepS s) (goA π u.toNat s.1)) im t → P (goA π u.toNat s.1 0 0 0) h') (kx : ∀ h', FrCm h h' → ¬ unitsP s.1 u → CI h' π s im (refT t 1) → P (-1) h') : wX11_units 0 u h P := by
  have hp := w.1
  have x := ci.lx w
  have t0 := w.2.1.1.1.1
  unfold inR at hu
  have no : ¬ unitsP s.1 u → wX11_refuse 0 1 h (fun x6 h5 => P x6 h5) := fun n => refuse_c ci (by decide) (fun h' f c' => kx h' f n c')
  unfold wX11_units
  rw [show h 6 10 1 = s.1 0 0 0 from x.2.2.2.1.1.1]
  refine ⟨hu, fun c => no (fun v => by have := v.1; omega), fun c => ⟨hu, fun c2 => no (fun v => by have := v.1; omega), fun c2 => ⟨by omega, fun c3 => ?_, fun c3 => no (fun v => c3 v.2)⟩⟩⟩
  refine keepS_c hp ci (fun h1 f1 c1 => ?_)
  have x1 : LX h1 10 π K s.1 := ⟨hp, c1.1, w.2.1.1.1, c1.2.1.1⟩
  refine pass_c x1 (by omega) (fun h2 f2 l2 => ?_)
  rw [l2.1.1.1]
  exact k h2 (fun k hk => by rw [f2.cm k hk, f1 k hk]) ⟨by omega, c3⟩ (c1.line f2 l2)
theorem units_r {h : HP} {π : PL} {K u : Int} {s : SD} {im : IM} {t : TX} {P : Int → HP → Prop} (w : WA π K s im t) (ri : RI h π s im t) (hu : inR u)
    (k : ∀ h', FrRf h h' → h' 12 7 1 = 0 → unitsP s.1 u → RI h' π (setS (keepS s) (goA π u.toNat s.1)) im t → P (goA π u.toNat s.1 0 0 0) h') (kx : ∀ h', FrRf h h' → h' 12 7 1 = 0 → ¬ unitsP s.1 u → RI h' π s im (refT t 1) → P (-1) h') : wX12_units 7 u h P := by
  have hp := w.1
  have t0 := w.2.1.1.1.1
  unfold wX12_units
  intro h1 e1
  have o1 : OkR h h1 0 := by rw [e1]; exact OkR.start ri.2.2.2.2 0
  have ri1 := o1.ri w ri
  have no : ¬ unitsP s.1 u → wX12_refuse 7 1 h1 (fun x6 h5 => P x6 h5) := fun n => refuse_r hp w.qln ri1 (by decide) (fun h' f r' => kx h' (fun k k1 k2 => by rw [f k (by omega), o1.1.rfr k k1 k2]) (by rw [f 12 (by decide)]; exact o1.2.2) n r')
  refine isIn_r hu (by omega) (by omega) (fun y hy hq => ⟨by omega, fun z => no (fun v => by have := hq.mpr v.1; omega), fun z => ?_⟩)
  have ru := hq.mp (by omega)
  rw [show h1 56 7 3084 = s.1 0 0 0 from ri1.2.1.1.1.1]
  refine ⟨by omega, fun c3 => ?_, fun c3 => no (fun v => c3 v.2)⟩
  refine keepS_r hp w.2.1 ri1 (fun h2 f2 r2 => ?_)
  have x2 : RX h2 π K s.1 := ⟨hp, r2.1, w.2.1.1.1, r2.2.1.1⟩
  refine goOn0_r x2 r2.2.2.2.2 (by omega) (fun h3 f3 i3 x3 => ?_)
  rw [x3.2.2.2.1.1]
  refine k h3 (fun k k1 k2 => ?_) ?_ ⟨ru, c3⟩ (r2.row f3 x3.2.2.2 i3)
  · rw [f3.1 k k1 (by omega) (by omega) (by omega) (by omega), f2.1 k k1 (by omega), o1.1.rfr k k1 k2]
  · rw [f3.2 1 (by decide) (by decide) (by decide), f2.2 1 (by decide)]; exact o1.2.2
def changeP (π : PL) (σ : ST) (c k a b d : Int) : Prop := (0 ≤ c ∧ c < π 0 0) ∧ (0 ≤ k ∧ k ≤ 2) ∧ wellC a b d ∧ (k = 0 → kids π c = 0) ∧ ¬ (0 < σ 11 (3 * c + k) 0 ∧ σ 9 (3 * c + k) 0 = a ∧ σ 10 (3 * c + k) 0 = b ∧ σ 11 (3 * c + k) 0 = d)
noncomputable def changeU (π : PL) (σ : ST) (c k a b d : Int) : ST := changeA π σ (hel π σ c) c k a b d
theorem changeQ_c {h : HP} {π : PL} {K c kk a b d : Int} {s : SD} {im : IM} {t : TX} {P : Int → HP → Prop} (w : WA π K s im t) (ci : CI h π s im t) (hc : inR c) (hk : inR kk) (ha : inR a) (hb : inR b) (hd : inR d)
    (k : ∀ h', FrCm h h' → changeP π s.1 c kk a b d → CI h' π (setS (keepS s) (changeU π s.1 c kk a b d)) im t → P (if 0 < s.1 11 (3 * c + kk) 0 then 1 else 0) h') (kx : ∀ h', FrCm h h' → ¬ changeP π s.1 c kk a b d → CI h' π s im (refT t 1) → P (-1) h') : wX11_change 0 c kk a b d h P := by
  have hp := w.1
  have x := ci.lx w
  have n12 := hp.1.2.1
  have no : ¬ changeP π s.1 c kk a b d → wX11_refuse 0 1 h (fun x6 h5 => P x6 h5) := fun n => refuse_c ci (by decide) (fun h' f c' => kx h' f n c')
  unfold wX11_change
  refine hasClass_c hp ci.1 hc (fun y hy hq => ⟨by omega, fun z => no (fun v => by have := hq.mpr v.1; omega), fun z => isCurve_c hk (fun y2 hy2 hq2 => ⟨by omega, fun z2 => no (fun v => by have := hq2.mpr v.2.1; omega), fun z2 => isWell_s ha hb hd (fun y3 hy3 hq3 => ⟨by omega, fun z3 => ?_, fun z3 => no (fun v => by have := hq3.mpr v.2.2.1; omega)⟩)⟩)⟩)
  have cc := hq.mp (by omega)
  have rk := hq2.mp (by omega)
  have wl := hq3.mp (by omega)
  have sl := x.slot (s := 3 * c + kk) (by omega) (by omega)
  have go : (kk = 0 → kids π c = 0) → wX11_change_56 0 c kk a b d P h := by
    intro g
    unfold wX11_change_56
    rw [show c * 3 + kk = 3 * c + kk by omega]
    have act : ∀ y5 : Int, (y5 = 0 ∨ y5 = 1) → (y5 = 1 ↔ 0 < s.1 11 (3 * c + kk) 0) → changeP π s.1 c kk a b d → wX11_change_108 0 c kk a b d y5 P h := by
      intro y5 hy5 hq5 cp
      unfold wX11_change_108
      refine keepS_c hp ci (fun h1 f1 c1 => ?_)
      have x1 : LX h1 10 π K s.1 := ⟨hp, c1.1, w.2.1.1.1, c1.2.1.1⟩
      refine change_c x1 cc.1 cc.2 rk wl g (fun h2 f2 l2 => ⟨by omega, fun t26 h26 => ?_⟩)
      have e : t26 = if 0 < s.1 11 (3 * c + kk) 0 then 1 else 0 := by
        by_cases v : y5 = 0
        · rw [h26.1 v, if_neg (fun u => by have := hq5.mpr u; omega)]
        · rw [h26.2 v, if_pos (hq5.mp (by omega))]
      rw [e]
      exact k h2 (fun k hk => by rw [f2.cm k hk, f1 k hk]) cp (c1.line f2 l2)
    refine has_c (σ := s.1) ⟨by omega, sl.2.2⟩ sl.1 sl.2.1 (fun y5 hy5 hq5 => ⟨by omega, fun z5 => act y5 hy5 hq5 ⟨cc, rk, wl, g, fun v => by have := hq5.mpr v.1; omega⟩, fun z5 => ?_⟩)
    have hm := hq5.mp (by omega)
    have ww := sl.2.1.1.2 hm
    unfold wellC at ww
    refine isSo_s ⟨by omega, sl.2.2⟩ (by rw [sl.1.1]; unfold inR; omega) (by rw [sl.1.2.1]; unfold inR; omega) (by rw [sl.1.2.2.1]; unfold inR; omega) ha hb hd (fun y6 hy6 hq6 => ?_)
    rw [sl.1.1, sl.1.2.1, sl.1.2.2.1] at hq6
    exact ⟨by omega, fun z6 => act y5 hy5 hq5 ⟨cc, rk, wl, g, fun v => by have := hq6.mpr v.2; omega⟩, fun z6 => no (fun v => v.2.2.2.2 ⟨hm, hq6.mp (by omega)⟩)⟩
  exact ⟨hk, fun z4 => go (fun v => absurd v z4), fun z4 => isLeaf_c hp.1 ci.1 (by omega) (fun y5 hy5 hq5 => ⟨by omega, fun z5 => go (fun _ => hq5.mp (by omega)), fun z5 => no (fun v => by have := hq5.mpr (v.2.2.2.1 z4); omega)⟩)⟩
theorem isSo_r {h : HP} {π : PL} {K c kk a b d : Int} {σ : ST} {P : Int → HP → Prop} (x : RX h π K σ) (c0 : 0 ≤ c) (c1 : c < π 0 0) (rk : 0 ≤ kk ∧ kk ≤ 2) (ha : inR a) (hb : inR b) (hd : inR d) (k : ∀ y, (y = 0 ∨ y = 1) → (y = 1 ↔ 0 < σ 11 (3 * c + kk) 0 ∧ σ 9 (3 * c + kk) 0 = a ∧ σ 10 (3 * c + kk) 0 = b ∧ σ 11 (3 * c + kk) 0 = d) → P y h) : wX12_isSo 7 (257 * c + 4 * kk) a b d h P := by
  have n12 := x.1.1.2.1
  have cu := (x.2.2.2.2.2 c c0 c1).2.2 kk rk.1 (by omega)
  have w := (x.2.2.1.2.2.2.2.2.2.2.2.2 (3 * c + kk) (by omega) (by omega)).1
  unfold inR at *
  unfold wX12_isSo
  have e0 := cu.1
  by_cases hm : 0 < σ 11 (3 * c + kk) 0
  · rw [if_pos hm] at e0
    obtain ⟨f1, f2, f3⟩ := cu.2.1 hm
    have ww := w.2 hm
    unfold wellC at ww
    rw [e0, f1, f2, f3]
    refine ⟨by omega, ⟨by omega, fun _ => ⟨by omega, by omega, ha, fun _ => ⟨by omega, by omega, hb, fun _ => ⟨by omega, by omega, hd⟩⟩⟩⟩, fun t12 ht => ?_⟩
    have h1 := ht.2 rfl
    have : (t12 = 0 ∨ t12 = 1) ∧ (t12 = 1 ↔ 0 < σ 11 (3 * c + kk) 0 ∧ σ 9 (3 * c + kk) 0 = a ∧ σ 10 (3 * c + kk) 0 = b ∧ σ 11 (3 * c + kk) 0 = d) := by
      by_cases z1 : σ 9 (3 * c + kk) 0 = a
      · by_cases z2 : σ 10 (3 * c + kk) 0 = b
        · by_cases z3 : σ 11 (3 * c + kk) 0 = d
          · rw [((h1.2 z1).2 z2).2 z3]; exact ⟨Or.inr rfl, fun _ => ⟨hm, z1, z2, z3⟩, fun _ => rfl⟩
          · rw [((h1.2 z1).2 z2).1 z3]; exact ⟨Or.inl rfl, fun u => by omega, fun u => absurd u.2.2.2 z3⟩
        · rw [(h1.2 z1).1 z2]; exact ⟨Or.inl rfl, fun u => by omega, fun u => absurd u.2.2.1 z2⟩
      · rw [h1.1 z1]; exact ⟨Or.inl rfl, fun u => by omega, fun u => absurd u.2.1 z1⟩
    exact ⟨this.1, k t12 this.1 this.2⟩
  · rw [if_neg hm] at e0
    rw [e0]
    refine ⟨by omega, ⟨by omega, fun u => by omega⟩, fun t12 ht => ?_⟩
    rw [ht.1 (by omega)]
    exact ⟨Or.inl rfl, k 0 (Or.inl rfl) ⟨fun u => by omega, fun u => absurd u.1 hm⟩⟩
theorem changeQ_r {h : HP} {π : PL} {K c kk a b d : Int} {s : SD} {im : IM} {t : TX} {P : Int → HP → Prop} (w : WA π K s im t) (ri : RI h π s im t) (hc : inR c) (hk : inR kk) (ha : inR a) (hb : inR b) (hd : inR d)
    (k : ∀ h', FrRf h h' → h' 12 7 1 = 0 → changeP π s.1 c kk a b d → RI h' π (setS (keepS s) (changeU π s.1 c kk a b d)) im t → P (if 0 < s.1 11 (3 * c + kk) 0 then 1 else 0) h') (kx : ∀ h', FrRf h h' → h' 12 7 1 = 0 → ¬ changeP π s.1 c kk a b d → RI h' π s im (refT t 1) → P (-1) h') : wX12_change 7 c kk a b d h P := by
  have hp := w.1
  have n12 := hp.1.2.1
  unfold wX12_change
  intro h1 e1
  have o1 : OkR h h1 0 := by rw [e1]; exact OkR.start ri.2.2.2.2 0
  have ri1 := o1.ri w ri
  have x := ri1.rx w
  have no : ¬ changeP π s.1 c kk a b d → wX12_refuse 7 1 h1 (fun x6 h5 => P x6 h5) := fun n => refuse_r hp w.qln ri1 (by decide) (fun h' f r' => kx h' (fun k k1 k2 => by rw [f k (by omega), o1.1.rfr k k1 k2]) (by rw [f 12 (by decide)]; exact o1.2.2) n r')
  have no0 : ¬ changeP π s.1 c kk a b d → wX12_change_58 7 c kk a b d P h1 := fun n => by
    unfold wX12_change_58 wX12_change_59
    exact ⟨by omega, fun _ => no n, fun u => absurd rfl u⟩
  refine isClass_r hp ri1.1 hc (fun y hy hq => ⟨by omega, fun z => no0 (fun v => by have := hq.mpr v.1; omega), fun z => ?_⟩)
  refine isIn_r hk (by omega) (by omega) (fun y2 hy2 hq2 => ⟨by omega, fun z2 => no0 (fun v => by have := hq2.mpr v.2.1; omega), fun z2 => ?_⟩)
  refine isIn_r ha (by omega) (by omega) (fun y3 hy3 hq3 => ⟨by omega, fun z3 => no0 (fun v => by have := v.2.2.1; unfold wellC at this; have := hq3.mpr (by omega); omega), fun z3 => ?_⟩)
  refine isIn_r hb (by omega) (by omega) (fun y4 hy4 hq4 => ⟨by omega, fun z4 => no0 (fun v => by have := v.2.2.1; unfold wellC at this; have := hq4.mpr (by omega); omega), fun z4 => ?_⟩)
  refine isIn_r hd (by omega) (by omega) (fun y5 hy5 hq5 => ⟨by omega, fun z5 => no0 (fun v => by have := v.2.2.1; unfold wellC at this; have := hq5.mpr (by omega); omega), fun z5 => ?_⟩)
  have cc := hq.mp (by omega)
  have rk := hq2.mp (by omega)
  have wl : wellC a b d := by
    have := hq3.mp (by omega); have := hq4.mp (by omega); have := hq5.mp (by omega)
    unfold wellC; omega
  have go : (kk = 0 → kids π c = 0) → wX12_change_78 7 c kk a b d P h1 := by
    intro g
    unfold wX12_change_78 wX12_curveAt
    dsimp only
    refine isSo_r x cc.1 cc.2 rk ha hb hd (fun y6 hy6 hq6 => ⟨by omega, fun z6 => ?_, fun z6 => no (fun v => v.2.2.2.2 (hq6.mp (by omega)))⟩)
    refine keepS_r hp w.2.1 ri1 (fun h2 f2 r2 => ?_)
    have x2 : RX h2 π K s.1 := ⟨hp, r2.1, w.2.1.1.1, r2.2.1.1⟩
    refine ⟨by omega, bend_r x2 cc.1 cc.2 rk wl g (fun h3 f3 x3 => ?_)⟩
    rw [((x2.2.2.2.2.2 c cc.1 cc.2).2.2 kk rk.1 (by omega)).1]
    have fu : FrU h2 h3 := ⟨fun k _ k2 k3 _ _ => f3 k k2 k3, fun j _ _ _ => by rw [f3 12 (by decide) (by decide)]⟩
    refine k h3 (fun k k1 k2 => ?_) ?_ ⟨cc, rk, wl, g, fun v => by have := hq6.mpr v; omega⟩ (r2.row fu x3.2.2.2 (r2.2.2.2.2.f12 (f3 12 (by decide) (by decide))))
    · rw [f3 k (by omega) (by omega), f2.1 k k1 (by omega), o1.1.rfr k k1 k2]
    · rw [f3 12 (by decide) (by decide), f2.2 1 (by decide)]; exact o1.2.2
  unfold wX12_change_59
  exact ⟨by omega, fun u => by omega, fun _ => ⟨hk, fun z6 => go (fun v => absurd v z6), fun z6 => isLeaf_r hp.1 ri1.1 cc.1 cc.2 (fun y7 hy7 hq7 => ⟨by omega, fun z7 => no (fun v => by have := hq7.mpr (v.2.2.2.1 z6); omega), fun z7 => go (fun _ => hq7.mp (by omega))⟩)⟩⟩
/-! empty -/
def emptyP (π : PL) (σ : ST) (c : Int) : Prop := (0 ≤ c ∧ c < π 0 0) ∧ σ 6 c 0 ≠ 0
theorem emptyQ_c {h : HP} {π : PL} {K c : Int} {s : SD} {im : IM} {t : TX} {P : Int → HP → Prop} (w : WA π K s im t) (ci : CI h π s im t) (hc : inR c)
    (k : ∀ h', FrCm h h' → emptyP π s.1 c → CI h' π (setS (keepS s) (dropQ s.1 c)) im t → P (s.1 6 c 0) h') (kx : ∀ h', FrCm h h' → ¬ emptyP π s.1 c → CI h' π s im (refT t 1) → P (-1) h') : wX11_empty 0 c h P := by
  have hp := w.1
  have x := ci.lx w
  have no : ¬ emptyP π s.1 c → wX11_refuse 0 1 h (fun x6 h5 => P x6 h5) := fun n => refuse_c ci (by decide) (fun h' f c' => kx h' f n c')
  unfold wX11_empty
  refine hasClass_c hp ci.1 hc (fun y hy hq => ⟨by omega, fun z => no (fun v => by have := hq.mpr v.1; omega), fun z => ?_⟩)
  have cc := hq.mp (by omega)
  have ql := w.2.1.1.1.qln c cc.1 cc.2
  refine packets_c x cc.1 cc.2 ⟨by omega, fun z2 => ?_, fun z2 => no (fun v => v.2 z2)⟩
  have kl : kids π c = 0 := by
    by_cases u : kids π c = 0
    · exact u
    · exact absurd ((w.2.1.1.1.2.2.2.2.2.2.1 c cc.1 cc.2).2.2.2.2.1 u) z2
  refine keepS_c hp ci (fun h1 f1 c1 => ?_)
  have x1 : LX h1 10 π K s.1 := ⟨hp, c1.1, w.2.1.1.1, c1.2.1.1⟩
  exact empty_c x1 cc.1 cc.2 kl (fun h2 f2 l2 => k h2 (fun k hk => by rw [f2.cm k hk, f1 k hk]) ⟨cc, z2⟩ (c1.line f2 l2))
theorem emptyQ_r {h : HP} {π : PL} {K c : Int} {s : SD} {im : IM} {t : TX} {P : Int → HP → Prop} (w : WA π K s im t) (ri : RI h π s im t) (hc : inR c)
    (k : ∀ h', FrRf h h' → h' 12 7 1 = 0 → emptyP π s.1 c → RI h' π (setS (keepS s) (dropQ s.1 c)) im t → P (s.1 6 c 0) h') (kx : ∀ h', FrRf h h' → h' 12 7 1 = 0 → ¬ emptyP π s.1 c → RI h' π s im (refT t 1) → P (-1) h') : wX12_empty 7 c h P := by
  have hp := w.1
  have n12 := hp.1.2.1
  unfold wX12_empty
  intro h1 e1
  have o1 : OkR h h1 0 := by rw [e1]; exact OkR.start ri.2.2.2.2 0
  have ri1 := o1.ri w ri
  have no : ¬ emptyP π s.1 c → wX12_refuse 7 1 h1 (fun x6 h5 => P x6 h5) := fun n => refuse_r hp w.qln ri1 (by decide) (fun h' f r' => kx h' (fun k k1 k2 => by rw [f k (by omega), o1.1.rfr k k1 k2]) (by rw [f 12 (by decide)]; exact o1.2.2) n r')
  refine isClass_r hp ri1.1 hc (fun y hy hq => ⟨by omega, fun z => no (fun v => by have := hq.mpr v.1; omega), fun z => ?_⟩)
  have cc := hq.mp (by omega)
  have ql := w.2.1.1.1.qln c cc.1 cc.2
  have e17 := (ri1.2.1.1.2.2 c cc.1 cc.2).1.2.2.2.2.2
  rw [e17]
  refine ⟨by omega, by omega, fun z2 => ?_, fun z2 => no (fun v => v.2 z2)⟩
  refine keepS_r hp w.2.1 ri1 (fun h2 f2 r2 => ?_)
  have x2 : RX h2 π K s.1 := ⟨hp, r2.1, w.2.1.1.1, r2.2.1.1⟩
  rw [(r2.2.1.1.2.2 c cc.1 cc.2).1.2.2.2.2.2]
  refine ⟨by omega, drop_r x2 cc.1 cc.2 (fun h3 f3 x3 => ?_)⟩
  have fu : FrU h2 h3 := ⟨fun k _ k2 _ _ _ => f3 k k2, fun j _ _ _ => by rw [f3 12 (by decide)]⟩
  refine k h3 (fun k k1 k2 => ?_) ?_ ⟨cc, z2⟩ (r2.row fu x3.2.2.2 (r2.2.2.2.2.f12 (f3 12 (by decide))))
  · rw [f3 k (by omega), f2.1 k k1 (by omega), o1.1.rfr k k1 k2]
  · rw [f3 12 (by decide), f2.2 1 (by decide)]; exact o1.2.2
