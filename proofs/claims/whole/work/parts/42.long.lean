/-! longest -/
theorem accTs_mono {π : PL} {σ : ST} {W : Int} : ∀ m : Nat, 0 ≤ accN σ (tellsA π m σ) W ∧ accN σ (tellsA π m σ) W ≤ m := by
  intro m
  induction m with
  | zero => have e : accN σ (tellsA π 0 σ) W = 0 := accN_n rfl
            rw [e]; omega
  | succ m ih =>
    have a := accT_mono (π := π) (σ := tellsA π m σ) (f := m) (W := W)
    have b := accN_add (σ := σ) (τ := tellsA π m σ) (ρ := tellsA π (m + 1) σ) (W := W)
    have c : tellsA π (m + 1) σ = tellA π (tellsA π m σ) m := rfl
    rw [c] at b
    rw [c]; omega
theorem unit_q {π : PL} {K : Int} {σ : ST} (hp : PlanOK π) (inv : AInv π K σ) {b : Int} (b0 : 0 ≤ b) (b1 : b < π 0 0) :
    (0 ≤ tellsA π (π 0 1).toNat σ 6 b 0 - σ 6 b 0 ∧ tellsA π (π 0 1).toNat σ 6 b 0 - σ 6 b 0 ≤ 8) ∧ tellsA π (π 0 1).toNat σ 6 b 0 ≤ 20 ∧ unitA π σ 6 b 0 = tellsA π (π 0 1).toNat σ 6 b 0 - (if chU π σ = b then 1 else 0) ∧ (chU π σ = b → 0 < tellsA π (π 0 1).toNat σ 6 b 0) := by
  have n8 := hp.2.1
  have inv1 : AInv π (K + (π 0 1).toNat) (tellsA π (π 0 1).toNat σ) := (tellsA_inv hp inv (π 0 1).toNat (by omega)).1
  have am := accTs_mono (π := π) (σ := σ) (W := b) (π 0 1).toNat
  unfold accN at am
  rw [if_pos b0] at am
  have q20 := inv1.qln b b0 b1
  generalize hτ : tellsA π (π 0 1).toNat σ = τ at *
  have eu : chU π σ = chT π τ := by unfold chU; rw [hτ]
  have ua : unitA π σ = tickA (midA π τ) := by unfold unitA; rw [hτ]
  refine ⟨by omega, q20.2, ?_, ?_⟩
  · rw [ua, eu, tickA_k (by decide)]
    unfold chT midA
    by_cases q : τ 0 1 0 = 0
    · rw [if_pos q, if_pos q, chooseA_ch]
      by_cases c : chA π τ = -1
      · rw [if_pos c, if_neg (by omega)]; omega
      · rw [if_neg c]
        rcases chA_rng hp.1 inv1 with r | r
        · exact absurd r c
        · rw [(sendA_all (σ := τ) (g := chG π τ) hp.1 r.1 r.2.1).2.2.1.1]
          by_cases e : chA π τ = b
          · rw [if_pos e, e, popA_6]
          · rw [if_neg e, popA_6o (fun u => e u.symm)]; omega
    · rw [if_neg q, if_neg q, if_neg (by omega)]; omega
  · intro e
    rw [eu] at e
    unfold chT at e
    by_cases q : τ 0 1 0 = 0
    · rw [if_pos q] at e
      rcases chA_rng hp.1 inv1 with r | r
      · omega
      · rw [e] at r; exact r.2.2.1
    · rw [if_neg q] at e; omega
abbrev LG : Type := Int × Int × Int × Int × (Int → Int)
def lgLeft (leaf : Int) (σ τ : ST) : Prop := σ 0 2 0 < τ 0 2 0 ∧ τ 0 4 0 = leaf
noncomputable def lgCome (leaf : Int) (σ τ : ST) : Int := τ 6 leaf 0 - σ 6 leaf 0 + @ite Int (lgLeft leaf σ τ) (Classical.propDecidable _) 1 0
noncomputable def lgCm (leaf : Int) (s : LG) (σ τ : ST) : Int → Int := fun i => if s.2.1 ≤ i ∧ i < s.2.1 + lgCome leaf σ τ then σ 0 0 0 else s.2.2.2.2 i
noncomputable def lgN (leaf : Int) (s : LG) (σ τ : ST) : LG :=
  @ite LG (lgLeft leaf σ τ) (Classical.propDecidable _) (if 0 < s.1 then (s.1 - 1, s.2.1 + lgCome leaf σ τ, s.2.2.1, s.2.2.2.1, lgCm leaf s σ τ) else (s.1, s.2.1 + lgCome leaf σ τ, s.2.2.1 + 1, max s.2.2.2.1 (σ 0 0 0 - lgCm leaf s σ τ s.2.2.1), lgCm leaf s σ τ)) (s.1, s.2.1 + lgCome leaf σ τ, s.2.2.1, s.2.2.2.1, lgCm leaf s σ τ)
noncomputable def lgS (leaf : Int) (s : LG) (σ τ : ST) : Sum LG Int := Sum.inl (lgN leaf s σ τ)
noncomputable def lgR (π : PL) (leaf : Int) (d : Nat) (ρ : ST) (s : LG) : Int := runA π (lgS leaf) (fun s => s.2.2.2.1) d ρ s
/-- what holds on the way -/
def LgI (leaf m : Int) (ρ : ST) (s : LG) : Prop := ρ 6 leaf 0 = s.1 + s.2.1 - s.2.2.1 ∧ 0 ≤ s.1 ∧ (0 ≤ s.2.2.1 ∧ s.2.2.1 ≤ m) ∧ s.2.2.1 ≤ s.2.1 ∧ (-1 ≤ s.2.2.2.1 ∧ s.2.2.2.1 ≤ 2700) ∧ ∀ i, 0 ≤ i → i < s.2.1 → 0 ≤ s.2.2.2.2 i ∧ s.2.2.2.2 i ≤ ρ 0 0 0
theorem lgLeft_iff {π : PL} {K leaf : Int} {σ : ST} (hp : PlanOK π) (inv : AInv π K σ) (l0 : 0 ≤ leaf) : lgLeft leaf σ (unitA π σ) ↔ chU π σ = leaf := by
  obtain ⟨w1, w2, w3, w4, w5⟩ := unit_ch hp inv
  unfold lgLeft
  by_cases c : chU π σ = -1
  · rw [if_pos c] at w2
    exact ⟨fun u => by have := u.1; omega, fun u => by omega⟩
  · rw [if_neg c] at w2
    rw [w3 c]
    exact ⟨fun u => u.2, fun u => ⟨by omega, u⟩⟩
theorem lg_come {π : PL} {K leaf : Int} {σ : ST} (hp : PlanOK π) (inv : AInv π K σ) (l0 : 0 ≤ leaf) (l1 : leaf < π 0 0) : lgCome leaf σ (unitA π σ) = tellsA π (π 0 1).toNat σ 6 leaf 0 - σ 6 leaf 0 := by
  have q := (unit_q hp inv l0 l1).2.2.1
  have i := lgLeft_iff hp inv l0
  unfold lgCome
  by_cases c : chU π σ = leaf
  · rw [if_pos (i.mpr c), q, if_pos c]; omega
  · rw [if_neg (fun u => c (i.mp u)), q, if_neg c]; omega
theorem lg_step {π : PL} {K leaf m : Int} {σ : ST} {s : LG} (hp : PlanOK π) (inv : AInv π K σ) (hT : σ 0 0 0 + 1 ≤ 2700) (l0 : 0 ≤ leaf) (l1 : leaf < π 0 0) (I : LgI leaf m σ s) :
    LgI leaf (m + 1) (unitA π σ) (lgN leaf s σ (unitA π σ)) ∧ 0 ≤ lgCome leaf σ (unitA π σ) ∧ s.2.1 + lgCome leaf σ (unitA π σ) ≤ 20 + m ∧ (chU π σ = leaf → s.1 ≤ 0 → s.2.2.1 < s.2.1 + lgCome leaf σ (unitA π σ)) ∧ (∀ i, 0 ≤ i → i < s.2.1 + lgCome leaf σ (unitA π σ) → 0 ≤ lgCm leaf s σ (unitA π σ) i ∧ lgCm leaf s σ (unitA π σ) i ≤ σ 0 0 0) := by
  obtain ⟨q1, q2, q3, q4⟩ := unit_q hp inv l0 l1
  have lc := lg_come hp inv l0 l1
  have li := lgLeft_iff hp inv l0
  have ut := (unitA_time hp inv).1
  have t0 := inv.1
  obtain ⟨i1, i2, i3, i4, i5, i6⟩ := I
  have cm : ∀ i, 0 ≤ i → i < s.2.1 + lgCome leaf σ (unitA π σ) → 0 ≤ lgCm leaf s σ (unitA π σ) i ∧ lgCm leaf s σ (unitA π σ) i ≤ σ 0 0 0 := by
    intro i i0 i1'
    unfold lgCm
    split
    · omega
    · exact i6 i i0 (by omega)
  have c0 : 0 ≤ lgCome leaf σ (unitA π σ) := by rw [lc]; omega
  have c1 : s.2.1 + lgCome leaf σ (unitA π σ) ≤ 20 + m := by rw [lc]; omega
  have c2 : chU π σ = leaf → s.1 ≤ 0 → s.2.2.1 < s.2.1 + lgCome leaf σ (unitA π σ) := by
    intro e z
    have := q4 e
    rw [lc]; omega
  refine ⟨?_, c0, c1, c2, cm⟩
  unfold lgN
  by_cases e : chU π σ = leaf
  · rw [if_pos (li.mpr e)]
    rw [if_pos e] at q3
    have q4' := q4 e
    by_cases z : 0 < s.1
    · rw [if_pos z]
      refine ⟨?_, ?_, ?_, ?_, ?_, fun i j0 j1 => ?_⟩
      · show unitA π σ 6 leaf 0 = s.1 - 1 + (s.2.1 + lgCome leaf σ (unitA π σ)) - s.2.2.1
        omega
      · show 0 ≤ s.1 - 1; omega
      · show 0 ≤ s.2.2.1 ∧ s.2.2.1 ≤ m + 1; omega
      · show s.2.2.1 ≤ s.2.1 + lgCome leaf σ (unitA π σ); omega
      · exact i5
      · have := cm i j0 j1
        show 0 ≤ lgCm leaf s σ (unitA π σ) i ∧ lgCm leaf s σ (unitA π σ) i ≤ unitA π σ 0 0 0
        omega
    · rw [if_neg z]
      have c2' := c2 e (by omega)
      have cmo := cm s.2.2.1 (by omega) c2'
      refine ⟨?_, ?_, ?_, ?_, ?_, fun i j0 j1 => ?_⟩
      · show unitA π σ 6 leaf 0 = s.1 + (s.2.1 + lgCome leaf σ (unitA π σ)) - (s.2.2.1 + 1)
        omega
      · exact i2
      · show 0 ≤ s.2.2.1 + 1 ∧ s.2.2.1 + 1 ≤ m + 1; omega
      · show s.2.2.1 + 1 ≤ s.2.1 + lgCome leaf σ (unitA π σ); omega
      · show -1 ≤ max s.2.2.2.1 (σ 0 0 0 - lgCm leaf s σ (unitA π σ) s.2.2.1) ∧ max s.2.2.2.1 (σ 0 0 0 - lgCm leaf s σ (unitA π σ) s.2.2.1) ≤ 2700
        omega
      · have := cm i j0 j1
        show 0 ≤ lgCm leaf s σ (unitA π σ) i ∧ lgCm leaf s σ (unitA π σ) i ≤ unitA π σ 0 0 0
        omega
  · rw [if_neg (fun u => e (li.mp u))]
    rw [if_neg e] at q3
    refine ⟨?_, i2, ?_, ?_, i5, fun i j0 j1 => ?_⟩
    · show unitA π σ 6 leaf 0 = s.1 + (s.2.1 + lgCome leaf σ (unitA π σ)) - s.2.2.1
      omega
    · show 0 ≤ s.2.2.1 ∧ s.2.2.1 ≤ m + 1; omega
    · show s.2.2.1 ≤ s.2.1 + lgCome leaf σ (unitA π σ); omega
    · have := cm i j0 j1
      show 0 ≤ lgCm leaf s σ (unitA π σ) i ∧ lgCm leaf s σ (unitA π σ) i ≤ unitA π σ 0 0 0
      omega
theorem LX.fq {h h' : HP} {π : PL} {K : Int} {σ : ST} (x : LX h 10 π K σ) (f : FrQC h h') : LX h' 10 π K σ :=
  ⟨x.1, x.2.1.congr (fun k hk => f k 1 (by unfold sctK; omega) (by unfold lnK; omega) (by omega)), x.2.2.1, x.2.2.2.c33 (fun k hk k33 => f k 10 (by unfold lnK at hk; unfold sctK; omega) (by omega) (by omega))⟩
noncomputable def longestV (π : PL) (σ : ST) (leaf n : Int) : Int × Int := @ite (Int × Int) ((0 ≤ leaf ∧ leaf < π 0 0) ∧ kids π leaf = 0) (Classical.propDecidable _) (if 1 ≤ n ∧ n ≤ 200 then (0, lgR π leaf n.toNat σ (σ 6 leaf 0, 0, 0, -1, fun _ => 0)) else (2, 0)) (1, 0)
theorem runA_adv2 {S : Type} {π : PL} {step : S → ST → ST → Sum S Int} {fin : S → Int} {ρ : ST} {s : S} {n D : Nat} (hb : 0 ≤ ρ 0 1 0) (h : ∀ j : Nat, j + 1 < n → goA π (j + 1) ρ = tickA (goA π j ρ)) (hs : ∀ τ : ST, (∀ k, k ≠ 0 → τ k = ρ k) → (∀ i, i ≠ 0 → i ≠ 1 → τ 0 i 0 = ρ 0 i 0) → step s τ (tickA τ) = Sum.inl s) (hn : 1 ≤ n) (hD : n ≤ D) :
    ∃ τ : ST, (∀ k, k ≠ 0 → τ k = ρ k) ∧ (∀ i, i ≠ 0 → i ≠ 1 → τ 0 i 0 = ρ 0 i 0) ∧ τ 0 0 0 = ρ 0 0 0 + (n - 1) ∧ τ = goA π (n - 1) ρ ∧ goA π n ρ = unitA π τ ∧ runA π step fin D ρ s = runA π step fin (D - n + 1) τ s := by
  have gs := goA_skip hb h (n - 1) (by omega)
  refine ⟨goA π (n - 1) ρ, fun k hk => by rw [gs, skipA_k hk], fun i i0 i1 => by rw [gs, skipA_0 i0 i1], by rw [gs, skipA_t]; omega, rfl, ?_, ?_⟩
  · have := goA_succ (π := π) (n - 1) ρ
    rw [show n - 1 + 1 = n by omega] at this
    exact this
  · have := runA_skip (fin := fin) hb h hs (D - n + 1) (n - 1) (by omega)
    rw [show n - 1 + (D - n + 1) = D by omega] at this
    exact this
theorem came_c {leaf n l3 l5 l6 l7 l8 t15 now come wc : Int} {h : HP} {Ko : Int → HP → Prop} (w0 : 0 ≤ wc) (c0 : 0 ≤ come) (c1 : wc + come ≤ 220) (k : ∀ h', (∀ k, k ≠ 20 → h' k = h k) → (∀ i, h' 20 0 i = if wc ≤ i ∧ i < wc + come then now else h 20 0 i) → Ko (wc + come) h') :
    ∀ (d : Nat) (j : Int) (hh : HP), (come - j).toNat = d → 0 ≤ j → j ≤ come → (∀ k, k ≠ 20 → hh k = h k) → (∀ i, hh 20 0 i = if wc ≤ i ∧ i < wc + j then now else h 20 0 i) → wX2_longestWait_168 0 leaf n l3 l5 l6 l7 l8 now t15 come Ko (d + 1) (wc + j) j hh := by
  intro d
  induction d with
  | zero =>
    intro j hh hd j0 j1 f g
    have e : j = come := by omega
    subst e
    rw [wX2_longestWait_168]
    exact ⟨by omega, by omega, fun _ => k hh f g, fun z => absurd (Int.le_refl _) z⟩
  | succ d ih =>
    intro j hh hd j0 j1 f g
    have hd1 : (come - (j + 1)).toNat = d := by omega
    rw [wX2_longestWait_168]
    refine ⟨by omega, by omega, fun z => absurd z (by omega), fun _ => ⟨by omega, fun z => absurd z (by omega), fun _ => ⟨by omega, fun h26 e26 => ?_⟩⟩⟩
    have := ih (j + 1) h26 hd1 (by omega) (by omega) (fun k hk => by rw [e26, up_k hk]; exact f k hk) (fun i => ?_)
    · rw [show wc + j + 1 = wc + (j + 1) by omega]; exact this
    · rw [e26, up_ji, g]
      by_cases z : i = wc + j
      · rw [if_pos z, if_pos (by omega)]
      · rw [if_neg z]
        by_cases y : wc ≤ i ∧ i < wc + j
        · rw [if_pos y, if_pos (by omega)]
        · rw [if_neg y, if_neg (by omega)]
theorem longestWait_c {h : HP} {π : PL} {K leaf n : Int} {σ : ST} {P : Int → HP → Prop} (x : LX h 10 π K σ) (hT : σ 0 0 0 ≤ 2000) (l0 : 0 ≤ leaf) (l1 : leaf < π 0 0) (hk : kids π leaf = 0) (rn : 1 ≤ n ∧ n ≤ 200)
    (k : ∀ h', FrQC h h' → P (lgR π leaf n.toNat σ (σ 6 leaf 0, 0, 0, -1, fun _ => 0)) h') : wX2_longestWait 0 leaf n h P := by
  have n12 := x.1.1.2.1
  have inv := x.2.2.1
  have t0 := x.2.2.1.1
  have ql := x.2.2.1.qln leaf l0 l1
  unfold wX2_longestWait
  refine copyL_c (by decide) x.1 x.2.1 x.2.2.2 (fun h1 f1 l1' => ?_)
  have x1 := x.f12 f1
  rw [show h1 6 10 1 = σ 0 0 0 from x1.2.2.2.1.1.1, (x1.held (Or.inl ⟨l0, l1⟩)).1, hel_leaf x.1.1 l0 l1 hk]
  generalize hV : lgR π leaf n.toNat σ (σ 6 leaf 0, 0, 0, -1, fun _ => 0) = V at *
  unfold lgR at hV
  have loop : ∀ (d m : Nat) (l8 : Int) (s : LG) (hh : HP), n - m ≤ d → m ≤ n → 0 ≤ l8 → l8 ≤ m → FrQC h hh → LineC hh 12 π (goA π m σ) → LgI leaf m (goA π m σ) s → (∀ i, 0 ≤ i → i < s.2.1 → hh 20 0 i = s.2.2.2.2 i) → runA π (lgS leaf) (fun s => s.2.2.2.1) (n.toNat - m) (goA π m σ) s = V →
      wX2_longestWait_44 0 leaf n (σ 0 0 0 + n) (fun l86 h87 => P l86 h87) (d + 1) s.1 s.2.1 s.2.2.1 s.2.2.2.1 l8 hh := by
    intro d
    induction d with
    | zero =>
      intro m l8 s hh hd hm hl0 hl1 fr lc I hcm hv
      have ga := (goA_at x.1 inv (by omega) (m := m) (by omega)).2
      have tt : hh 6 12 1 = σ 0 0 0 + m := by rw [lc.1.1.1, ga]
      have ev : s.2.2.2.1 = V := by rw [← hv, show n.toNat - m = 0 by omega]; rfl
      rw [wX2_longestWait_44, tt]
      exact ⟨by omega, by omega, fun _ => by rw [ev]; exact k hh fr, fun _ => ⟨by omega, by omega, fun _ => by rw [ev]; exact k hh fr, fun c => absurd (by omega) c⟩⟩
    | succ d ih =>
      intro m l8 s hh hd hm hl0 hl1 fr lc I hcm hv
      have ga := goA_at x.1 inv (by omega) (m := m) (by omega)
      have tt : hh 6 12 1 = σ 0 0 0 + m := by rw [lc.1.1.1, ga.2]
      have ends : n ≤ m → P s.2.2.2.1 hh := by
        intro em
        have ev : s.2.2.2.1 = V := by rw [← hv, show n.toNat - m = 0 by omega]; rfl
        rw [ev]; exact k hh fr
      rw [wX2_longestWait_44, tt]
      refine ⟨by omega, by omega, fun c => ends (by omega), fun c => ⟨by omega, by omega, fun c2 => ends (by omega), fun c2 => ⟨by omega, ?_⟩⟩⟩
      have xm : LX hh 12 π K (goA π m σ) := ⟨x.1, (x.fq fr).2.1, ga.1, lc⟩
      have gt := ga.2
      generalize hρ : goA π m σ = ρ at *
      refine advance_c xm (by omega) (fun h10 u f10 n1 n2 l10 q10 => ?_)
      have hs : ∀ τ : ST, (∀ k, k ≠ 0 → τ k = ρ k) → (∀ i, i ≠ 0 → i ≠ 1 → τ 0 i 0 = ρ 0 i 0) → lgS leaf s τ (tickA τ) = Sum.inl s := by
        intro τ _ _
        have nl : ¬ lgLeft leaf τ (tickA τ) := fun u => by have := u.1; rw [tickA_0 (by decide) (by decide)] at this; omega
        have c0 : lgCome leaf τ (tickA τ) = 0 := by unfold lgCome; rw [if_neg nl, tickA_k (by decide)]; omega
        have cm : lgCm leaf s τ (tickA τ) = s.2.2.2.2 := by
          funext i
          unfold lgCm
          rw [c0, if_neg (by omega)]
        unfold lgS lgN
        rw [if_neg nl, cm, c0]
        show Sum.inl (s.1, s.2.1 + 0, s.2.2.1, s.2.2.2.1, s.2.2.2.2) = Sum.inl s
        rw [Int.add_zero]
      obtain ⟨τ, g1, g2, g3, g4, g5, g6⟩ := runA_adv2 (fin := fun s : LG => s.2.2.2.1) (D := n.toNat - m) (n := u) ga.1.2.1.1 q10 hs n1 (by omega)
      have gm : goA π u ρ = goA π (m + u) σ := by rw [← hρ, goA_add]
      have ga1 := goA_at x.1 inv (by omega) (m := m + u - 1) (by omega)
      have eτ : AInv π K τ := by
        have : goA π (u - 1) ρ = goA π (m + u - 1) σ := by rw [← hρ, ← goA_add]; congr 1; omega
        rw [g4, this]; exact ga1.1
      have ga2 := goA_at x.1 inv (by omega) (m := m + u) (by omega)
      have fr10 : FrQC h h10 := fr.tr f10.q
      have ln := l10.1.1
      rw [g5] at ln
      have lc3 : hh 6 12 3 = τ 0 2 0 := by rw [lc.1.1.2.2.1, g2 2 (by decide) (by decide)]
      have cb := ga2.1.2.2.1
      have t2 := ga2.1.1
      have lb := ga2.1.2.2.2.2.1
      rw [← gm, g5] at cb t2 lb
      have cρ := ga.1.2.2.1
      have tρ := ga.1.1
      have τ2 : τ 0 2 0 = ρ 0 2 0 := g2 2 (by decide) (by decide)
      have ut := (unitA_time x.1 eτ).1
      have Iτ : LgI leaf (m + u - 1) τ s := by
        obtain ⟨i1, i2, i3, i4, i5, i6⟩ := I
        refine ⟨by rw [g1 6 (by decide)]; exact i1, i2, by omega, i4, i5, fun i j0 j1 => ?_⟩
        have := i6 i j0 j1; omega
      obtain ⟨st1, st2, st3, st4, st5⟩ := lg_step x.1 eτ (by omega) l0 l1 Iτ
      have li := lgLeft_iff x.1 eτ l0
      have hB : h10 29 12 leaf = unitA π τ 6 leaf 0 := by rw [l10.2 leaf (Or.inl ⟨l0, l1⟩), hel_leaf x.1.1 l0 l1 hk, g5]
      have hA : hh 29 12 leaf = τ 6 leaf 0 := by rw [lc.2 leaf (Or.inl ⟨l0, l1⟩), hel_leaf x.1.1 l0 l1 hk, g1 6 (by decide)]
      rw [ln.2.2.1, ln.2.2.2.2.1, ln.1, lc3, hB, hA, ut, show τ 0 0 0 + 1 - 1 = τ 0 0 0 by omega]
      have lfd : lgLeft leaf τ (unitA π τ) ↔ (¬ unitA π τ 0 2 0 ≤ τ 0 2 0 ∧ unitA π τ 0 4 0 = leaf) := by unfold lgLeft; omega
      refine ⟨⟨by omega, by omega, fun _ => ⟨by rcases lb with z | z <;> omega, by omega⟩⟩, fun t15 h15 => ⟨by omega, ?_⟩⟩
      have e15 : (t15 = 0 ∨ t15 = 1) ∧ (t15 = 1 ↔ lgLeft leaf τ (unitA π τ)) := by
        rw [lfd]
        by_cases z : unitA π τ 0 2 0 ≤ τ 0 2 0
        · rw [h15.1 z]; omega
        · by_cases y : unitA π τ 0 4 0 = leaf
          · rw [(h15.2 z).2 y]; omega
          · rw [(h15.2 z).1 y]; omega
      refine ⟨by omega, fun t19 h19 => ?_⟩
      have e19 : unitA π τ 6 leaf 0 - τ 6 leaf 0 + t19 = lgCome leaf τ (unitA π τ) := by
        unfold lgCome
        by_cases z : t15 = 0
        · rw [h19.1 z, if_neg (fun u => by have := e15.2.mpr u; omega)]
        · rw [h19.2 z, if_pos (e15.2.mp (by omega))]
      rw [e19]
      have cm0 := came_c (leaf := leaf) (n := n) (l3 := s.1) (l5 := s.2.2.1) (l6 := s.2.2.2.1) (l7 := σ 0 0 0 + n) (l8 := l8) (t15 := t15) (now := τ 0 0 0) (come := lgCome leaf τ (unitA π τ)) (wc := s.2.1) (h := h10) (by have := I.2.2.1.1; have := I.2.2.2.1; omega) st2 (by omega) (Ko := fun l29 h30 => ((-2147483648 ≤ t15 ∧ t15 < 2147483648) ∧ (t15 = 0 → ((-2147483648 ≤ t15 ∧ t15 < 2147483648) ∧ (¬ t15 = 0 → ((-2147483648 ≤ s.2.2.1 ∧ s.2.2.1 < 2147483648) ∧ (-2147483648 ≤ l29 ∧ l29 < 2147483648) ∧ (¬ l29 ≤ s.2.2.1 → ((0 ≤ s.2.2.1 ∧ s.2.2.1 < 220) ∧ (-2147483648 ≤ τ 0 0 0 - (h30 20 0 s.2.2.1) ∧ τ 0 0 0 - (h30 20 0 s.2.2.1) < 2147483648) ∧ (-2147483648 ≤ s.2.2.2.1 ∧ s.2.2.2.1 < 2147483648) ∧ (¬ τ 0 0 0 - (h30 20 0 s.2.2.1) ≤ s.2.2.2.1 → (0 ≤ s.2.2.1 ∧ s.2.2.1 < 220)))))))) ∧ (¬ t15 = 0 → ((-2147483648 ≤ s.1 ∧ s.1 < 2147483648) ∧ (s.1 ≤ 0 → ((-2147483648 ≤ t15 ∧ t15 < 2147483648) ∧ (¬ t15 = 0 → ((-2147483648 ≤ s.2.2.1 ∧ s.2.2.1 < 2147483648) ∧ (-2147483648 ≤ l29 ∧ l29 < 2147483648) ∧ (¬ l29 ≤ s.2.2.1 → ((0 ≤ s.2.2.1 ∧ s.2.2.1 < 220) ∧ (-2147483648 ≤ τ 0 0 0 - (h30 20 0 s.2.2.1) ∧ τ 0 0 0 - (h30 20 0 s.2.2.1) < 2147483648) ∧ (-2147483648 ≤ s.2.2.2.1 ∧ s.2.2.2.1 < 2147483648) ∧ (¬ τ 0 0 0 - (h30 20 0 s.2.2.1) ≤ s.2.2.2.1 → (0 ≤ s.2.2.1 ∧ s.2.2.1 < 220))))))))))) ∧ ∀ t47 t48 t49 : Int, ((t15 = 0 → ((t15 = 0 → (t47 = s.1 ∧ t48 = s.2.2.1 ∧ t49 = s.2.2.2.1)) ∧ (¬ t15 = 0 → ((l29 ≤ s.2.2.1 → (t47 = s.1 ∧ t48 = s.2.2.1 ∧ t49 = s.2.2.2.1)) ∧ (¬ l29 ≤ s.2.2.1 → ((τ 0 0 0 - (h30 20 0 s.2.2.1) ≤ s.2.2.2.1 → (t47 = s.1 ∧ t48 = s.2.2.1 + 1 ∧ t49 = s.2.2.2.1)) ∧ (¬ τ 0 0 0 - (h30 20 0 s.2.2.1) ≤ s.2.2.2.1 → (t47 = s.1 ∧ t48 = s.2.2.1 + 1 ∧ t49 = τ 0 0 0 - (h30 20 0 s.2.2.1))))))))) ∧ (¬ t15 = 0 → ((s.1 ≤ 0 → ((t15 = 0 → (t47 = s.1 ∧ t48 = s.2.2.1 ∧ t49 = s.2.2.2.1)) ∧ (¬ t15 = 0 → ((l29 ≤ s.2.2.1 → (t47 = s.1 ∧ t48 = s.2.2.1 ∧ t49 = s.2.2.2.1)) ∧ (¬ l29 ≤ s.2.2.1 → ((τ 0 0 0 - (h30 20 0 s.2.2.1) ≤ s.2.2.2.1 → (t47 = s.1 ∧ t48 = s.2.2.1 + 1 ∧ t49 = s.2.2.2.1)) ∧ (¬ τ 0 0 0 - (h30 20 0 s.2.2.1) ≤ s.2.2.2.1 → (t47 = s.1 ∧ t48 = s.2.2.1 + 1 ∧ t49 = τ 0 0 0 - (h30 20 0 s.2.2.1))))))))) ∧ (¬ s.1 ≤ 0 → (t47 = s.1 + (-1) ∧ t48 = s.2.2.1 ∧ t49 = s.2.2.2.1))))) → wX2_longestWait_44 0 leaf n (σ 0 0 0 + n) (fun l86 h87 => P l86 h87) (d + 1) t47 l29 t48 t49 (l8 + 1) h30) ?_ _ 0 h10 rfl (by omega) st2 (fun _ _ => rfl) (fun i => by rw [if_neg (by omega)])
      · rw [Int.add_zero] at cm0
        exact ⟨_, cm0⟩
      · intro h30 f30 c30
        have I2 := I.2
        have out0 := I.2.2.1.1
        have out1 := I.2.2.1.2
        have lon := I.2.2.2.2.1
        have ce : ∀ i, 0 ≤ i → i < s.2.1 + lgCome leaf τ (unitA π τ) → h30 20 0 i = lgCm leaf s τ (unitA π τ) i := by
          intro i i0 i1
          rw [c30]
          unfold lgCm
          by_cases z : s.2.1 ≤ i ∧ i < s.2.1 + lgCome leaf τ (unitA π τ)
          · rw [if_pos z, if_pos z]
          · rw [if_neg z, if_neg z, f10 20 0 (by omega)]
            exact hcm i i0 (by omega)
        have io := I.2.2.2.1
        have old0 := I.2.1
        have old20 : s.1 ≤ 20 := by have := I.1; have := (eτ.qln leaf l0 l1).2; rw [g1 6 (by decide)] at this; omega
        have need : ¬ s.2.1 + lgCome leaf τ (unitA π τ) ≤ s.2.2.1 → (0 ≤ s.2.2.1 ∧ s.2.2.1 < 220) ∧ (-2147483648 ≤ τ 0 0 0 - (h30 20 0 s.2.2.1) ∧ τ 0 0 0 - (h30 20 0 s.2.2.1) < 2147483648) ∧ (-2147483648 ≤ s.2.2.2.1 ∧ s.2.2.2.1 < 2147483648) ∧ (¬ τ 0 0 0 - (h30 20 0 s.2.2.1) ≤ s.2.2.2.1 → (0 ≤ s.2.2.1 ∧ s.2.2.1 < 220)) := by
          intro z
          have r := st5 s.2.2.1 out0 (by omega)
          rw [ce s.2.2.1 out0 (by omega)]
          exact ⟨by omega, by omega, by omega, fun _ => by omega⟩
        refine ⟨⟨by omega, fun z => ⟨by omega, fun z2 => absurd z z2⟩, fun z => ⟨by omega, fun _ => ⟨by omega, fun _ => ⟨by omega, by omega, need⟩⟩⟩⟩, fun t47 t48 t49 ht => ?_⟩
        have eN : lgN leaf s τ (unitA π τ) = (t47, s.2.1 + lgCome leaf τ (unitA π τ), t48, t49, lgCm leaf s τ (unitA π τ)) := by
          unfold lgN
          by_cases z : t15 = 0
          · obtain ⟨r1, r2, r3⟩ := (ht.1 z).1 z
            rw [if_neg (fun u => by have := e15.2.mpr u; omega), r1, r2, r3]
          · have lf := e15.2.mp (by omega)
            rw [if_pos lf]
            by_cases y : s.1 ≤ 0
            · have ol := st4 (li.mp lf) y
              have r := ((ht.2 z).1 y).2 z
              have r' := r.2 (by omega)
              rw [ce s.2.2.1 out0 ol] at r'
              rw [if_neg (by omega)]
              by_cases v : τ 0 0 0 - lgCm leaf s τ (unitA π τ) s.2.2.1 ≤ s.2.2.2.1
              · obtain ⟨r1, r2, r3⟩ := r'.1 v
                rw [r1, r2, r3, show max s.2.2.2.1 (τ 0 0 0 - lgCm leaf s τ (unitA π τ) s.2.2.1) = s.2.2.2.1 by omega]
              · obtain ⟨r1, r2, r3⟩ := r'.2 v
                rw [r1, r2, r3, show max s.2.2.2.1 (τ 0 0 0 - lgCm leaf s τ (unitA π τ) s.2.2.1) = τ 0 0 0 - lgCm leaf s τ (unitA π τ) s.2.2.1 by omega]
            · obtain ⟨r1, r2, r3⟩ := (ht.2 z).2 y
              rw [if_pos (by omega), r1, r2, r3]
              rfl
        have st : lgS leaf s τ (unitA π τ) = Sum.inl (t47, s.2.1 + lgCome leaf τ (unitA π τ), t48, t49, lgCm leaf s τ (unitA π τ)) := by unfold lgS; rw [eN]
        rw [g6, runA_l st, show n.toNat - m - u = n.toNat - (m + u) by omega] at hv
        rw [eN] at st1
        have fr30 : FrQC h h30 := fr10.tr (fun k i q _ _ => by rw [f30 k (fun z => q (by rw [z]; unfold sctK; omega))])
        refine ih (m + u) (l8 + 1) (t47, s.2.1 + lgCome leaf τ (unitA π τ), t48, t49, lgCm leaf s τ (unitA π τ)) h30 (by omega) (by omega) (by omega) (by omega) fr30 ?_ ?_ (fun i i0 i1 => ce i i0 i1) (by rw [← gm, g5]; exact hv)
        · rw [← gm]
          exact l10.congr (fun k hk => by rw [f30 k (by unfold lnK at hk; omega)])
        · rw [← gm, g5]
          have e : ((m + u : Nat) : Int) = (m : Int) + u - 1 + 1 := by omega
          rw [e]; exact st1
  have I0 : LgI leaf ((0 : Nat) : Int) (goA π 0 σ) (σ 6 leaf 0, 0, 0, -1, fun _ => 0) := by
    refine ⟨?_, ql.1, ⟨Int.le_refl (0 : Int), Int.le_refl (0 : Int)⟩, Int.le_refl (0 : Int), ⟨(by decide : (-1 : Int) ≤ -1), (by decide : (-1 : Int) ≤ 2700)⟩, fun i i0 i1 => ?_⟩
    · show σ 6 leaf 0 = σ 6 leaf 0 + 0 - 0; omega
    · have i1' : i < (0 : Int) := i1
      omega
  have := loop n.toNat 0 0 (σ 6 leaf 0, 0, 0, -1, fun _ => 0) h1 (by omega) (by omega) (by omega) (by omega) f1.q l1' I0 (fun i i0 i1 => by have i1' : i < (0 : Int) := i1; omega) hV
  exact ⟨by omega, _, this⟩
theorem longest_c {h : HP} {π : PL} {K leaf n : Int} {σ : ST} {P : Int → HP → Prop} {X : Nat → HP → Prop} (x : LX h 10 π K σ) (hT : σ 0 0 0 ≤ 2000) (hc : inR leaf) (hn : inR n)
    (k : ∀ h' v, FrQC h h' → longestV π σ leaf n = (0, v) → P v h') (kx : ∀ h', FrQC h h' → longestV π σ leaf n = (1, 0) → X 0 h') (kx2 : ∀ h', FrQC h h' → longestV π σ leaf n = (2, 0) → X 1 h') : wX11_longest 0 leaf n h P X := by
  unfold wX11_longest
  refine needLeaf_c x.1 x.2.1 hc (fun q => needRange_c hn (by unfold inR; omega) (by unfold inR; omega) (fun rn => ?_) (fun nr => kx2 h (FrQC.rf h) (by unfold longestV; rw [if_pos q, if_neg nr]))) (fun nq => kx h (FrQC.rf h) (by unfold longestV; rw [if_neg nq]))
  exact longestWait_c x hT q.1.1 q.1.2 q.2 rn (fun h' f => k h' _ f (by unfold longestV; rw [if_pos q, if_pos rn]))
