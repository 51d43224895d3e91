/-! toShare, toCap -/
noncomputable def shM (π : PL) (σ : ST) (c n m : Int) : Int := goA π n.toNat (changeA π σ (hel π σ c) c 1 m 0 m) 1 c 0 - σ 1 c 0
noncomputable def shF (π : PL) (σ : ST) (c b n : Int) : Nat → Int → Int
  | 0, _ => -1
  | d + 1, m => if b ≤ shM π σ c n m then m else shF π σ c b n d (m + 1)
theorem chg_ok {π : PL} {K c k m : Int} {σ : ST} (hp : PlanOK π) (inv : AInv π K σ) (c0 : 0 ≤ c) (c1 : c < π 0 0) (hk : k = 1 ∨ k = 2) (hm : 1 ≤ m ∧ m ≤ 100) : wellC m 0 m ∧ (k = 0 → kids π c = 0) ∧ AInv π K (changeA π σ (hel π σ c) c k m 0 m) ∧ changeA π σ (hel π σ c) c k m 0 m 0 = σ 0 ∧ changeA π σ (hel π σ c) c k m 0 m 1 = σ 1 ∧ changeA π σ (hel π σ c) c k m 0 m 6 = σ 6 := by
  have w : wellC m 0 m := by unfold wellC; omega
  exact ⟨w, fun z => by omega, changeA_inv inv c0 c1 (by omega) w (fun z => by omega), changeA_6 0 (by decide), changeA_6 1 (by decide), changeA_6 6 (by decide)⟩
noncomputable def toShareV (π : PL) (σ : ST) (c b n : Int) : Int × Int := @ite (Int × Int) (0 ≤ c ∧ c < π 0 0) (Classical.propDecidable _) (if (1 ≤ b ∧ b ≤ 999) ∧ 1 ≤ n ∧ n ≤ 200 then (0, shF π σ c b n 100 1) else (2, 0)) (1, 0)
theorem toShare_c {h : HP} {π : PL} {K c b n : Int} {σ : ST} {P : Int → HP → Prop} {X : Nat → HP → Prop} (x : LX h 10 π K σ) (hT : σ 0 0 0 ≤ 2000) (hc : inR c) (hb : inR b) (hn : inR n)
    (k : ∀ h' v, FrQC h h' → toShareV π σ c b n = (0, v) → P v h') (kx : ∀ h', FrQC h h' → toShareV π σ c b n = (1, 0) → X 0 h') (kx2 : ∀ h', FrQC h h' → toShareV π σ c b n = (2, 0) → X 1 h') : wX11_toShare 0 c b n h P X := by
  have n12 := x.1.1.2.1
  have inv := x.2.2.1
  have t0 := inv.1
  unfold wX11_toShare
  refine needClass_c x.1 x.2.1 hc (fun cc => ?_) (fun nc => kx h (FrQC.rf h) (by unfold toShareV; rw [if_neg nc]))
  refine needRange_c hb (by unfold inR; omega) (by unfold inR; omega) (fun rb => ?_) (fun nr => kx2 h (FrQC.rf h) (by unfold toShareV; rw [if_pos cc, if_neg (fun u => nr u.1)]))
  refine needRange_c hn (by unfold inR; omega) (by unfold inR; omega) (fun rn => ?_) (fun nr => kx2 h (FrQC.rf h) (by unfold toShareV; rw [if_pos cc, if_neg (fun u => nr u.2)]))
  unfold wX2_leastShare
  have loop : ∀ (d : Nat) (m : Int) (hh : HP), (101 - m).toNat = d → 1 ≤ m → m ≤ 101 → FrL 12 h hh → shF π σ c b n d m = shF π σ c b n 100 1 → wX2_leastShare_3 0 c b n (fun h12 => P (-1) h12) (fun l13 h14 => P l13 h14) (d + 1) m hh := by
    intro d
    induction d with
    | zero =>
      intro m hh hd m0 m1 fr hv
      rw [wX2_leastShare_3]
      exact ⟨by omega, fun _ => k hh _ fr.q (by unfold toShareV; rw [if_pos cc, if_pos ⟨rb, rn⟩, ← hv]; rfl), fun z => absurd (by omega) z⟩
    | succ d ih =>
      intro m hh hd m0 m1 fr hv
      have hd1 : (101 - (m + 1)).toNat = d := by omega
      obtain ⟨w, w0, ci, e0, e1, e6⟩ := chg_ok (k := 1) (m := m) x.1 inv cc.1 cc.2 (Or.inl rfl) (by omega)
      have xh := x.f12 fr
      rw [wX2_leastShare_3]
      refine ⟨by omega, fun z => absurd z (by omega), fun _ => copyL_c (by decide) x.1 xh.2.1 xh.2.2.2 (fun h3 f3 l3 => ?_)⟩
      have x3 := xh.cp f3 inv l3
      refine change_c x3 cc.1 cc.2 (by omega) w w0 (fun h4 f4 l4 => ?_)
      have x4 := x.cp ((fr.tr f3).tr f4) ci l4
      have te : changeA π σ (hel π σ c) c 1 m 0 m 0 0 0 = σ 0 0 0 := by rw [e0]
      refine pass_c x4 (by omega) (fun h5 f5 l5 => ?_)
      have fr5 := ((fr.tr f3).tr f4).tr f5
      have ga := goA_at x.1 ci (by omega) (m := n.toNat) (by omega)
      have s5 := (l5.1.2.1 c cc.1 cc.2).1
      have s10 := ((x.f12 fr5).2.2.2.1.2.1 c cc.1 cc.2).1
      have b1 := (inv.2.2.2.2.2.2.1 c cc.1 cc.2).1
      have b2 := (ga.1.2.2.2.2.2.2.1 c cc.1 cc.2).1
      have br := inv.2.1
      have br2 := ga.1.2.1
      have tr2 := ga.1.1
      rw [s5, s10]
      have eM : goA π n.toNat (changeA π σ (hel π σ c) c 1 m 0 m) 1 c 0 - σ 1 c 0 = shM π σ c n m := rfl
      rw [eM]
      have rM : -3000 ≤ shM π σ c n m ∧ shM π σ c n m ≤ 3000 := by rw [← eM]; omega
      replace hv : (if b ≤ shM π σ c n m then m else shF π σ c b n d (m + 1)) = shF π σ c b n 100 1 := hv
      refine ⟨by omega, by omega, by omega, by omega, fun z => ?_, fun z => ?_⟩
      · rw [if_neg (by omega)] at hv
        exact ih (m + 1) h5 hd1 (by omega) (by omega) fr5 hv
      · rw [if_pos (by omega)] at hv
        exact k h5 _ fr5.q (by unfold toShareV; rw [if_pos cc, if_pos ⟨rb, rn⟩, ← hv])
  exact ⟨_, loop 100 1 h rfl (by omega) (by omega) (FrL.rf _ _) rfl⟩
theorem FrS.v {h0 h h' : HP} (a : FrS h0 h) (f : Fr5659 h h') : FrS h0 h' := a.k56 f
theorem toShare_r {h : HP} {π : PL} {K c b n : Int} {σ : ST} {P : Int → HP → Prop} (x0 : RY h π K σ) (hT : σ 0 0 0 ≤ 2000) (hc : inR c) (hb : inR b) (hn : inR n)
    (k : ∀ h' y e v, OkR h h' e → toShareV π σ c b n = (e, v) → (e = 0 → y = v) → P y h') : wX12_toShare 7 c b n h P := by
  unfold wX12_toShare
  intro h1 e1
  have o1 : OkR h h1 0 := by rw [e1]; exact OkR.start x0.2 0
  have y1 := x0.ok o1
  have x := y1.1
  have n12 := x.1.1.2.1
  have inv := x.2.2.1
  have t0 := inv.1
  refine isClass_r x.1 x.2.1 hc (fun y hy hq => ⟨by omega, fun z => ?_, fun z => fail_r (k _ 0 1 0 (o1.fail 1) (by unfold toShareV; rw [if_neg (fun u => by have := hq.mpr u; omega)]) (fun z => by omega))⟩)
  have cc := hq.mp (by omega)
  have ff2 : ¬ ((1 ≤ b ∧ b ≤ 999) ∧ 1 ≤ n ∧ n ≤ 200) → P 0 (up h1 12 7 1 2) := fun nb => k _ 0 2 0 (o1.fail 2) (by unfold toShareV; rw [if_pos cc, if_neg nb]) (fun z => by omega)
  refine isIn_r hb (by omega) (by omega) (fun y3 hy3 hq3 => ⟨by omega, fun z3 => fail_r (ff2 (fun u => by have := hq3.mpr u.1; omega)), fun z3 => ?_⟩)
  refine isIn_r hn (by omega) (by omega) (fun y5 hy5 hq5 => ⟨by omega, fun z5 => ?_, fun z5 => fail_r (ff2 (fun u => by have := hq5.mpr u.2; omega))⟩)
  have rb := hq3.mp (by omega)
  have rn := hq5.mp (by omega)
  refine remember_s (fun h16 f16 s16 => ?_)
  have x16 := x.f63 f16
  have i16 : IdleR h16 := y1.2.f12 (by rw [f16 12 (by decide)])
  have ok : ∀ (hh : HP), FrQR h1 hh → IdleR hh → hh 12 7 1 = h1 12 7 1 → OkR h hh 0 := fun hh f ii ec => o1.two f ii ec
  have loop : ∀ (d : Nat) (m : Int) (hh : HP), (101 - m).toNat = d → 1 ≤ m → m ≤ 101 → FrQR h1 hh → FrS h1 hh → IdleR hh → hh 12 7 1 = h1 12 7 1 → shF π σ c b n d m = shF π σ c b n 100 1 → wX12_toShare_54 7 c b n (fun h34 => P (-1) h34) (fun l35 h36 => P l35 h36) (d + 1) m hh := by
    intro d
    induction d with
    | zero =>
      intro m hh hd m0 m1 fr s ii ec hv
      rw [wX12_toShare_54]
      exact ⟨by omega, fun _ => k hh _ 0 _ (ok hh fr ii ec) (by unfold toShareV; rw [if_pos cc, if_pos ⟨rb, rn⟩, ← hv]; rfl) (fun _ => rfl), fun z => absurd (by omega) z⟩
    | succ d ih =>
      intro m hh hd m0 m1 fr s ii ec hv
      have hd1 : (101 - (m + 1)).toNat = d := by omega
      obtain ⟨w, w0, ci, e0, e1', e6⟩ := chg_ok (k := 1) (m := m) x.1 inv cc.1 cc.2 (Or.inl rfl) (by omega)
      have xh := x.qr fr
      have was : hh 56 7 (257 * c + 12) = σ 1 c 0 := (xh.2.2.2.2.2 c cc.1 cc.2).1.1
      rw [wX12_toShare_54, was]
      refine ⟨by omega, fun z => absurd z (by omega), fun _ => ⟨by omega, bend_r xh cc.1 cc.2 (by omega) w w0 (fun h20 f20 x20 => ?_)⟩⟩
      have i20 : IdleR h20 := ii.f12 (f20 12 (by decide) (by decide))
      have te : changeA π σ (hel π σ c) c 1 m 0 m 0 0 0 = σ 0 0 0 := by rw [e0]
      refine goOn0_r x20 i20 (by omega) (fun h21 f21 i21 x21 => ?_)
      have ga := goA_at x.1 ci (by omega) (m := n.toNat) (by omega)
      have b1 := (inv.2.2.2.2.2.2.1 c cc.1 cc.2).1
      have b2 := (ga.1.2.2.2.2.2.2.1 c cc.1 cc.2).1
      have br := inv.2.1
      have br2 := ga.1.2.1
      have tr2 := ga.1.1
      have now : h21 56 7 (257 * c + 12) = goA π n.toNat (changeA π σ (hel π σ c) c 1 m 0 m) 1 c 0 := (x21.2.2.2.2.2 c cc.1 cc.2).1.1
      rw [now]
      have eM : goA π n.toNat (changeA π σ (hel π σ c) c 1 m 0 m) 1 c 0 - σ 1 c 0 = shM π σ c n m := rfl
      rw [eM]
      have rM : -3000 ≤ shM π σ c n m ∧ shM π σ c n m ≤ 3000 := by rw [← eM]; omega
      refine ⟨by omega, ⟨by omega, by omega⟩, fun t25 h25 => back_s ((s.v f20).u f21) (fun h27 g1 g2 g3 => ?_)⟩
      have i27 : IdleR h27 := i21.f12 (by rw [g1 12 (by decide)])
      have ec27 : h27 12 7 1 = h1 12 7 1 := by rw [g1 12 (by decide), f21.2 1 (by decide) (by decide) (by decide), f20 12 (by decide) (by decide)]; exact ec
      replace hv : (if b ≤ shM π σ c n m then m else shF π σ c b n d (m + 1)) = shF π σ c b n 100 1 := hv
      by_cases z : shM π σ c n m < b
      · rw [h25.1 z]
        rw [if_neg (by omega)] at hv
        exact ⟨by omega, fun _ => ih (m + 1) h27 hd1 (by omega) (by omega) g2 g3 i27 ec27 hv, fun u => absurd rfl u⟩
      · rw [h25.2 z]
        rw [if_pos (by omega)] at hv
        exact ⟨by omega, fun u => by omega, fun _ => k h27 _ 0 _ (ok h27 g2 i27 ec27) (by unfold toShareV; rw [if_pos cc, if_pos ⟨rb, rn⟩, ← hv]) (fun _ => rfl)⟩
  have q16 : FrQR h1 h16 := ⟨fun k _ _ _ _ _ k6 _ _ _ _ => f16 k k6, fun j _ => by rw [f16 12 (by decide)], fun j _ _ => by rw [f16 56 (by decide)]⟩
  exact ⟨_, loop 100 1 h16 rfl (by omega) (by omega) q16 s16 i16 (by rw [f16 12 (by decide)]) rfl⟩
/-! toCap -/
theorem wtA_cut {π : PL} {K leaf t0 : Int} (hp : PlanOK π) : ∀ (d D : Nat) (ρ : ST) (left : Int), AInv π K ρ → ρ 0 0 0 + D ≤ 2700 → d ≤ D → t0 ≤ ρ 0 0 0 →
    (wtA π leaf t0 D ρ left = -1 ∨ ρ 0 0 0 - t0 ≤ wtA π leaf t0 D ρ left) ∧ (wtA π leaf t0 d ρ left = -1 ↔ (wtA π leaf t0 D ρ left = -1 ∨ ρ 0 0 0 - t0 + d ≤ wtA π leaf t0 D ρ left)) := by
  have base : ∀ (D : Nat) (ρ : ST) (left : Int), AInv π K ρ → ρ 0 0 0 + D ≤ 2700 → t0 ≤ ρ 0 0 0 → (wtA π leaf t0 D ρ left = -1 ∨ ρ 0 0 0 - t0 ≤ wtA π leaf t0 D ρ left) := by
    intro D
    induction D with
    | zero => intro ρ left _ _ _; exact Or.inl rfl
    | succ D ih =>
      intro ρ left inv hT ht
      have ut := (unitA_time hp inv).1
      have ui := unitA_inv hp inv (by omega)
      unfold wtA
      by_cases c : ρ 0 2 0 < unitA π ρ 0 2 0 ∧ unitA π ρ 0 4 0 = leaf
      · by_cases c2 : left - 1 = 0
        · rw [runA_r (by unfold wtS; rw [if_pos c, if_pos c2])]; omega
        · rw [runA_l (s' := left - 1) (by unfold wtS; rw [if_pos c, if_neg c2])]
          have := ih (unitA π ρ) (left - 1) ui (by omega) (by omega)
          unfold wtA at this
          omega
      · rw [runA_l (s' := left) (by unfold wtS; rw [if_neg c])]
        have := ih (unitA π ρ) left ui (by omega) (by omega)
        unfold wtA at this
        omega
  intro d
  induction d with
  | zero =>
    intro D ρ left inv hT hd ht
    have b := base D ρ left inv hT ht
    refine ⟨b, fun _ => by omega, fun _ => rfl⟩
  | succ d ih =>
    intro D ρ left inv hT hd ht
    refine ⟨base D ρ left inv hT ht, ?_⟩
    obtain ⟨D', rfl⟩ : ∃ D', D = D' + 1 := ⟨D - 1, by omega⟩
    have ut := (unitA_time hp inv).1
    have ui := unitA_inv hp inv (by omega)
    have iht := fun left' => ih D' (unitA π ρ) left' ui (by omega) (by omega) (by omega)
    unfold wtA at *
    by_cases c : ρ 0 2 0 < unitA π ρ 0 2 0 ∧ unitA π ρ 0 4 0 = leaf
    · by_cases c2 : left - 1 = 0
      · rw [runA_r (d := d) (v := unitA π ρ 0 0 0 - 1 - t0) (by unfold wtS; rw [if_pos c, if_pos c2]), runA_r (d := D') (v := unitA π ρ 0 0 0 - 1 - t0) (by unfold wtS; rw [if_pos c, if_pos c2])]
        omega
      · rw [runA_l (d := d) (s' := left - 1) (by unfold wtS; rw [if_pos c, if_neg c2]), runA_l (d := D') (s' := left - 1) (by unfold wtS; rw [if_pos c, if_neg c2])]
        have := iht (left - 1)
        rw [this.2]; omega
    · rw [runA_l (d := d) (s' := left) (by unfold wtS; rw [if_neg c]), runA_l (d := D') (s' := left) (by unfold wtS; rw [if_neg c])]
      have := iht left
      rw [this.2]; omega
noncomputable def cpM (π : PL) (σ : ST) (c leaf n m : Int) : Int := wtA π leaf (σ 0 0 0) (n + 1).toNat (changeA π σ (hel π σ c) c 2 m 0 m) (σ 6 leaf 0)
noncomputable def cpF (π : PL) (σ : ST) (c leaf n : Int) : Nat → Int
  | 0 => -1
  | m + 1 => if cpM π σ c leaf n (m + 1) = -1 then cpF π σ c leaf n m else m + 1
noncomputable def toCapV (π : PL) (σ : ST) (c leaf n : Int) : Int × Int := @ite (Int × Int) ((0 ≤ c ∧ c < π 0 0) ∧ queued π σ leaf) (Classical.propDecidable _) (if 0 ≤ n ∧ n ≤ 399 then (0, cpF π σ c leaf n 100) else (2, 0)) (1, 0)
theorem cpM_rng {π : PL} {K c leaf n m : Int} {σ : ST} (hp : PlanOK π) (inv : AInv π K σ) (hT : σ 0 0 0 ≤ 2000) (c0 : 0 ≤ c) (c1 : c < π 0 0) (hn : 0 ≤ n ∧ n ≤ 399) (hm : 1 ≤ m ∧ m ≤ 100) : cpM π σ c leaf n m = -1 ∨ (0 ≤ cpM π σ c leaf n m ∧ cpM π σ c leaf n m ≤ n) := by
  obtain ⟨w, w0, ci, e0, e1, e6⟩ := chg_ok (k := 2) (m := m) hp inv c0 c1 (Or.inr rfl) hm
  have te : changeA π σ (hel π σ c) c 2 m 0 m 0 0 0 = σ 0 0 0 := by rw [e0]
  have := wtA_cut (leaf := leaf) (t0 := σ 0 0 0) hp (n + 1).toNat (n + 1).toNat _ (σ 6 leaf 0) ci (by omega) (Nat.le_refl _) (by omega)
  unfold cpM
  omega
theorem toCap_c {h : HP} {π : PL} {K c leaf n : Int} {σ : ST} {P : Int → HP → Prop} {X : Nat → HP → Prop} (x : LX h 10 π K σ) (hT : σ 0 0 0 ≤ 2000) (hc : inR c) (hb : inR leaf) (hn : inR n)
    (k : ∀ h' v, FrQC h h' → toCapV π σ c leaf n = (0, v) → P v h') (kx : ∀ h', FrQC h h' → toCapV π σ c leaf n = (1, 0) → X 0 h') (kx2 : ∀ h', FrQC h h' → toCapV π σ c leaf n = (2, 0) → X 1 h') : wX11_toCap 0 c leaf n h P X := by
  have n12 := x.1.1.2.1
  have inv := x.2.2.1
  have t0 := inv.1
  unfold wX11_toCap
  refine needClass_c x.1 x.2.1 hc (fun cc => ?_) (fun nc => kx h (FrQC.rf h) (by unfold toCapV; rw [if_neg (fun u => nc u.1)]))
  refine needQueue_c x hb (fun q => ?_) (fun nq => kx h (FrQC.rf h) (by unfold toCapV; rw [if_neg (fun u => nq u.2)]))
  refine needRange_c hn (by unfold inR; omega) (by unfold inR; omega) (fun rn => ?_) (fun nr => kx2 h (FrQC.rf h) (by unfold toCapV; rw [if_pos ⟨cc, q⟩, if_neg nr]))
  unfold wX2_greatestCap
  have loop : ∀ (m : Nat) (hh : HP), m ≤ 100 → FrL 12 h hh → cpF π σ c leaf n m = cpF π σ c leaf n 100 → wX2_greatestCap_4 0 c leaf n (fun h10 => P (-1) h10) (fun l11 h12 => P l11 h12) (m + 1) m hh := by
    intro m
    induction m with
    | zero =>
      intro hh hm fr hv
      rw [wX2_greatestCap_4]
      exact ⟨by omega, fun _ => k hh _ fr.q (by unfold toCapV; rw [if_pos ⟨cc, q⟩, if_pos rn, ← hv]; rfl), fun z => absurd (by omega) z⟩
    | succ m ih =>
      intro hh hm fr hv
      obtain ⟨w, w0, ci, e0, e1, e6⟩ := chg_ok (k := 2) (m := (m : Int) + 1) x.1 inv cc.1 cc.2 (Or.inr rfl) (by omega)
      have xh := x.f12 fr
      have em : ((m + 1 : Nat) : Int) = (m : Int) + 1 := by omega
      rw [wX2_greatestCap_4, em]
      refine ⟨by omega, fun z => absurd z (by omega), fun _ => copyL_c (by decide) x.1 xh.2.1 xh.2.2.2 (fun h3 f3 l3 => ?_)⟩
      have x3 := xh.cp f3 inv l3
      refine change_c x3 cc.1 cc.2 (by omega) w w0 (fun h4 f4 l4 => ?_)
      have fr4 := (fr.tr f3).tr f4
      have x4 := x.cp fr4 ci l4
      have te : changeA π σ (hel π σ c) c 2 ((m : Int) + 1) 0 ((m : Int) + 1) 0 0 0 = σ 0 0 0 := by rw [e0]
      refine waitOnLater_c (x.f12 fr4) x4 te hT (by omega) q (fun h5 f5 => ?_)
      have rM := cpM_rng (leaf := leaf) x.1 inv hT cc.1 cc.2 rn (m := (m : Int) + 1) (by omega)
      have eM : wtA π leaf (σ 0 0 0) (n + 1).toNat (changeA π σ (hel π σ c) c 2 ((m : Int) + 1) 0 ((m : Int) + 1)) (σ 6 leaf 0) = cpM π σ c leaf n ((m : Int) + 1) := rfl
      rw [eM]
      have hv' : (if cpM π σ c leaf n ((m : Int) + 1) = -1 then cpF π σ c leaf n m else (m : Int) + 1) = cpF π σ c leaf n 100 := hv
      refine ⟨by omega, fun z => ?_, fun z => ?_⟩
      · rw [if_pos z] at hv'
        rw [show (m : Int) + 1 + -1 = m by omega]
        exact ih h5 (by omega) (fr4.tr f5) hv'
      · rw [if_neg z] at hv'
        exact k h5 _ (fr4.tr f5).q (by unfold toCapV; rw [if_pos ⟨cc, q⟩, if_pos rn, ← hv'])
  exact ⟨_, loop 100 h (by omega) (FrL.rf _ _) rfl⟩
theorem toCap_r {h : HP} {π : PL} {K c leaf n : Int} {σ : ST} {P : Int → HP → Prop} (x0 : RY h π K σ) (hT : σ 0 0 0 ≤ 2000) (hc : inR c) (hb : inR leaf) (hn : inR n)
    (k : ∀ h' y e v, OkR h h' e → toCapV π σ c leaf n = (e, v) → (e = 0 → y = v) → P y h') : wX12_toCap 7 c leaf n h P := by
  unfold wX12_toCap
  intro h1 e1
  have o1 : OkR h h1 0 := by rw [e1]; exact OkR.start x0.2 0
  have y1 := x0.ok o1
  have x := y1.1
  have n12 := x.1.1.2.1
  have inv := x.2.2.1
  have t0 := inv.1
  have ff : toCapV π σ c leaf n = (1, 0) → P 0 (up h1 12 7 1 1) := fun ev => k _ 0 1 0 (o1.fail 1) ev (fun z => by omega)
  refine isClass_r x.1 x.2.1 hc (fun y hy hq => ⟨by omega, fun z => fail_r (ff (by unfold toCapV; rw [if_neg (fun u => by have := hq.mpr u.1; omega)])), fun z => ?_⟩)
  have cc := hq.mp (by omega)
  refine hasPackets_r x hb (fun y3 hy3 hq3 => ⟨by omega, fun z3 => ?_, fun z3 => fail_r (ff (by unfold toCapV; rw [if_neg (fun u => by have := hq3.mpr u.2; omega)]))⟩)
  have q := hq3.mp (by omega)
  have q1 := q.1
  have q2 := q.2.2
  have ql := inv.qln leaf q.1.1 q.1.2
  refine isIn_r hn (by omega) (by omega) (fun y5 hy5 hq5 => ⟨by omega, fun z5 => ?_, fun z5 => fail_r (k _ 0 2 0 (o1.fail 2) (by unfold toCapV; rw [if_pos ⟨cc, q⟩, if_neg (fun u => by have := hq5.mpr u; omega)]) (fun z => by omega))⟩)
  have rn := hq5.mp (by omega)
  refine remember_s (fun h16 f16 s16 => ?_)
  have x16 := x.f63 f16
  have i16 : IdleR h16 := y1.2.f12 (by rw [f16 12 (by decide)])
  rw [(x16.2.2.2.2.2 leaf q.1.1 q.1.2).1.2.2.2.2.2]
  have loop : ∀ (m : Nat) (hh : HP), m ≤ 100 → FrQR h1 hh → FrS h1 hh → IdleR hh → hh 12 7 1 = h1 12 7 1 → cpF π σ c leaf n m = cpF π σ c leaf n 100 → wX12_toCap_67 7 c leaf n (σ 6 leaf 0) (fun h31 => P (-1) h31) (fun l32 h33 => P l32 h33) (m + 1) m hh := by
    intro m
    induction m with
    | zero =>
      intro hh hm fr s ii ec hv
      rw [wX12_toCap_67]
      exact ⟨by omega, fun _ => k hh _ 0 _ (o1.two fr ii ec) (by unfold toCapV; rw [if_pos ⟨cc, q⟩, if_pos rn, ← hv]; rfl) (fun _ => rfl), fun z => absurd (by omega) z⟩
    | succ m ih =>
      intro hh hm fr s ii ec hv
      obtain ⟨w, w0, ci, e0, e1', e6⟩ := chg_ok (k := 2) (m := (m : Int) + 1) x.1 inv cc.1 cc.2 (Or.inr rfl) (by omega)
      have xh := x.qr fr
      have em : ((m + 1 : Nat) : Int) = (m : Int) + 1 := by omega
      rw [wX12_toCap_67, em]
      refine ⟨by omega, fun z => absurd z (by omega), fun _ => bend_r xh cc.1 cc.2 (by omega) w w0 (fun h20 f20 x20 => ?_)⟩
      have i20 : IdleR h20 := ii.f12 (f20 12 (by decide) (by decide))
      have te : changeA π σ (hel π σ c) c 2 ((m : Int) + 1) 0 ((m : Int) + 1) 0 0 0 = σ 0 0 0 := by rw [e0]
      have cut := wtA_cut (leaf := leaf) (t0 := σ 0 0 0) x.1 (n + 1).toNat 400 _ (σ 6 leaf 0) ci (by omega) (by omega) (by omega)
      have cut4 := wtA_cut (leaf := leaf) (t0 := σ 0 0 0) x.1 400 400 _ (σ 6 leaf 0) ci (by omega) (by omega) (by omega)
      refine unitsTill_r x20 i20 te hT (by omega) (by omega) (fun h21 K' τ f21 i21 x21 => ?_)
      refine back_s ((s.v f20).u f21) (fun h23 g1 g2 g3 => ?_)
      have i23 : IdleR h23 := i21.f12 (by rw [g1 12 (by decide)])
      have ec23 : h23 12 7 1 = h1 12 7 1 := by rw [g1 12 (by decide), f21.2 1 (by decide) (by decide) (by decide), f20 12 (by decide) (by decide)]; exact ec
      have eM : wtA π leaf (σ 0 0 0) (n + 1).toNat (changeA π σ (hel π σ c) c 2 ((m : Int) + 1) 0 ((m : Int) + 1)) (σ 6 leaf 0) = cpM π σ c leaf n ((m : Int) + 1) := rfl
      rw [eM] at cut
      have hv' : (if cpM π σ c leaf n ((m : Int) + 1) = -1 then cpF π σ c leaf n m else (m : Int) + 1) = cpF π σ c leaf n 100 := hv
      generalize wtA π leaf (σ 0 0 0) 400 (changeA π σ (hel π σ c) c 2 ((m : Int) + 1) 0 ((m : Int) + 1)) (σ 6 leaf 0) = W at *
      have next : cpM π σ c leaf n ((m : Int) + 1) = -1 → wX12_toCap_111 7 c leaf n (σ 6 leaf 0) ((m : Int) + 1) (fun y5 hy => wX12_toCap_67 7 c leaf n (σ 6 leaf 0) (fun h31 => P (-1) h31) (fun l32 h33 => P l32 h33) (m + 1) y5 hy) h23 := by
        intro z
        rw [if_pos z] at hv'
        unfold wX12_toCap_111
        rw [show (m : Int) + 1 + -1 = m by omega]
        exact ih h23 (by omega) g2 g3 i23 ec23 hv'
      refine ⟨by omega, fun z => next (by omega), fun z => ⟨by omega, by omega, fun z2 => next (by omega), fun z2 => ?_⟩⟩
      have z3 : cpM π σ c leaf n ((m : Int) + 1) ≠ -1 := by omega
      rw [if_neg z3] at hv'
      exact k h23 _ 0 _ (o1.two g2 i23 ec23) (by unfold toCapV; rw [if_pos ⟨cc, q⟩, if_pos rn, ← hv']) (fun _ => rfl)
  have q16 : FrQR h1 h16 := ⟨fun k _ _ _ _ _ k6 _ _ _ _ => f16 k k6, fun j _ => by rw [f16 12 (by decide)], fun j _ _ => by rw [f16 56 (by decide)]⟩
  exact ⟨by omega, _, loop 100 h16 (by omega) q16 s16 i16 (by rw [f16 12 (by decide)]) rfl⟩
