/-! spread, toShare, toCap -/
theorem grtV_cg {π : PL} {σ τ : ST} {i b : Int} (h3 : τ 3 = σ 3) (h6 : τ 6 = σ 6) : ∀ m : Nat, grtV π τ i b m = grtV π σ i b m ∧ lstV π τ i b m = lstV π σ i b m := by
  intro m
  induction m with
  | zero => exact ⟨rfl, rfl⟩
  | succ m ih =>
    have e := hel_same (π := π) (b := (m : Int)) h6
    unfold grtV lstV
    rw [e, h3, ih.1, ih.2]
    exact ⟨rfl, rfl⟩
theorem spreadA_cg {π : PL} {σ τ : ST} {i : Int} (h3 : τ 3 = σ 3) (h6 : τ 6 = σ 6) : spreadA π τ i = spreadA π σ i := by
  unfold spreadA
  rw [(grtV_cg h3 h6 _).1, (grtV_cg h3 h6 _).2]
noncomputable def spS (π : PL) (i most : Int) (_ τ : ST) : Sum Int Int := Sum.inl (max most (spreadA π τ i))
noncomputable def spR (π : PL) (i : Int) (d : Nat) (ρ : ST) (most : Int) : Int := runA π (spS π i) (fun s => s) d ρ most
theorem spreadA_rng {π : PL} {K : Int} {σ : ST} (hp : PlanOK π) (inv : AInv π K σ) (i : Int) : 0 ≤ spreadA π σ i ∧ spreadA π σ i ≤ 6500 * σ 0 2 0 := by
  have n0 := hp.1.1
  have g := grtV_rng inv i (-1) (π 0 0).toNat (by omega)
  have c := inv.2.2.1
  unfold spreadA
  split
  · omega
  · rename_i z
    have := g.2.2 z
    omega
theorem widest_c {h : HP} {π : PL} {K i n : Int} {σ : ST} {P : Int → HP → Prop} (x : LX h 10 π K σ) (hT : σ 0 0 0 ≤ 2000) (hi : (0 ≤ i ∧ i < π 0 0) ∨ i = 12) (hn : 0 ≤ n ∧ n ≤ 400)
    (k : ∀ h', FrL 12 h h' → P (spR π i n.toNat σ (spreadA π σ i)) h') : wX2_widestSpread 0 i n h P := by
  have n12 := x.1.1.2.1
  have inv := x.2.2.1
  have t0 := x.2.2.1.1
  unfold wX2_widestSpread
  refine copyL_c (by decide) x.1 x.2.1 x.2.2.2 (fun h1 f1 l1 => spread_c (x.cp f1 inv l1) hi ?_)
  rw [show h1 6 10 1 = σ 0 0 0 from (x.f12 f1).2.2.2.1.1.1]
  generalize hV : spR π i n.toNat σ (spreadA π σ i) = V at *
  unfold spR at hV
  have loop : ∀ (d m : Nat) (l5 most : Int) (hh : HP), n - m ≤ d → m ≤ n → 0 ≤ l5 → l5 ≤ m → FrL 12 h hh → LineC hh 12 π (goA π m σ) → spreadA π (goA π m σ) i ≤ most → most ≤ 20000000 → runA π (spS π i) (fun s => s) (n.toNat - m) (goA π m σ) most = V →
      wX2_widestSpread_34 0 i n (σ 0 0 0 + n) (fun l20 h21 => P l20 h21) (d + 1) most l5 hh := by
    intro d
    induction d with
    | zero =>
      intro m l5 most hh hd hm hl0 hl1 fr lc hn1 hn2 hv
      have ga := (goA_at x.1 inv (by omega) (m := m) (by omega)).2
      have tt : hh 6 12 1 = σ 0 0 0 + m := by rw [lc.1.1.1, ga]
      have ev : most = V := by rw [← hv, show n.toNat - m = 0 by omega]; rfl
      rw [wX2_widestSpread_34, tt]
      exact ⟨by omega, by omega, fun _ => by rw [ev]; exact k hh fr, fun _ => ⟨by omega, by omega, fun _ => by rw [ev]; exact k hh fr, fun c => absurd (by omega) c⟩⟩
    | succ d ih =>
      intro m l5 most hh hd hm hl0 hl1 fr lc hn1 hn2 hv
      have ga := goA_at x.1 inv (by omega) (m := m) (by omega)
      have tt : hh 6 12 1 = σ 0 0 0 + m := by rw [lc.1.1.1, ga.2]
      have ends : n ≤ m → P most hh := by
        intro em
        have ev : most = V := by rw [← hv, show n.toNat - m = 0 by omega]; rfl
        rw [ev]; exact k hh fr
      rw [wX2_widestSpread_34, tt]
      refine ⟨by omega, by omega, fun c => ends (by omega), fun c => ⟨by omega, by omega, fun c2 => ends (by omega), fun c2 => ?_⟩⟩
      have xm := x.cp fr ga.1 lc
      have gt := ga.2
      have sr0 := spreadA_rng x.1 ga.1 i
      generalize hρ : goA π m σ = ρ at *
      refine advance_c xm (by omega) (fun h8 u f8 n1 n2 l8 q8 => ?_)
      have hs : ∀ τ : ST, (∀ k, k ≠ 0 → τ k = ρ k) → (∀ i, i ≠ 0 → i ≠ 1 → τ 0 i 0 = ρ 0 i 0) → spS π i most τ (tickA τ) = Sum.inl most := by
        intro τ h1 _
        unfold spS
        rw [spreadA_cg (σ := ρ) (by rw [tickA_k (by decide), h1 3 (by decide)]) (by rw [tickA_k (by decide), h1 6 (by decide)])]
        congr 1
        omega
      obtain ⟨τ, g1, g2, g3, g4, g5, g6⟩ := runA_adv (fin := fun s : Int => s) (D := n.toNat - m) (n := u) ga.1.2.1.1 q8 hs n1 (by omega)
      have gm : goA π u ρ = goA π (m + u) σ := by rw [← hρ, goA_add]
      have ga2 := goA_at x.1 inv (by omega) (m := m + u) (by omega)
      have fr8 := fr.tr f8
      have sr := spreadA_rng x.1 ga2.1 i
      have cb := ga2.1.2.2.1
      have t2 := ga2.1.1
      rw [gm] at l8
      refine spread_c (x.cp fr8 ga2.1 l8) hi ⟨⟨by omega, by omega⟩, fun t15 h15 => ?_⟩
      have e15 : t15 = max most (spreadA π (goA π (m + u) σ) i) := by
        by_cases z : spreadA π (goA π (m + u) σ) i ≤ most
        · rw [h15.1 z]; omega
        · rw [h15.2 z]; omega
      have st : spS π i most τ (unitA π τ) = Sum.inl t15 := by unfold spS; rw [← g5, gm, e15]
      rw [g6, runA_l st, show n.toNat - m - u = n.toNat - (m + u) by omega, ← g5, gm] at hv
      exact ih (m + u) (l5 + 1) t15 h8 (by omega) (by omega) (by omega) (by omega) fr8 l8 (by omega) (by omega) hv
  have sr := spreadA_rng x.1 inv i
  have cb := inv.2.2.1
  have := loop n.toNat 0 0 (spreadA π σ i) h1 (by omega) (by omega) (by omega) (by omega) f1 l1 (Int.le_refl _) (by omega) hV
  exact ⟨_, this⟩
noncomputable def spreadV (π : PL) (σ : ST) (c n : Int) : Int × Int := @ite (Int × Int) (c = -1 ∨ (0 ≤ c ∧ c < π 0 0)) (Classical.propDecidable _) (if 0 ≤ n ∧ n ≤ 400 then (0, spR π (if c = -1 then 12 else c) n.toNat σ (spreadA π σ (if c = -1 then 12 else c))) else (2, 0)) (1, 0)
theorem spreadQ_c {h : HP} {π : PL} {K c n : Int} {σ : ST} {P : Int → HP → Prop} {X : Nat → HP → Prop} (x : LX h 10 π K σ) (hT : σ 0 0 0 ≤ 2000) (hc : inR c) (hn : inR n)
    (k : ∀ h' v, FrQC h h' → spreadV π σ c n = (0, v) → P v h') (kx : ∀ h', FrQC h h' → spreadV π σ c n = (1, 0) → X 0 h') (kx2 : ∀ h', FrQC h h' → spreadV π σ c n = (2, 0) → X 1 h') : wX11_spread 0 c n h P X := by
  have n12 := x.1.1.2.1
  unfold wX11_spread
  have go : (c = -1 ∨ (0 ≤ c ∧ c < π 0 0)) → wX11_spread_10 0 c n P X h := by
    intro q
    unfold wX11_spread_10
    refine needRange_c hn (by unfold inR; omega) (by unfold inR; omega) (fun rn => ⟨hc, fun t5 h5 => ?_⟩) (fun nr => kx2 h (FrQC.rf h) (by unfold spreadV; rw [if_pos q, if_neg nr]))
    have e5 : t5 = if c = -1 then 12 else c := by
      by_cases z : c = -1
      · rw [if_pos z, h5.2 z]
      · rw [if_neg z, h5.1 z]
    refine widest_c x hT ?_ rn (fun h' f => k h' _ f.q (by unfold spreadV; rw [if_pos q, if_pos rn, e5]))
    rw [e5]
    split
    · exact Or.inr rfl
    · rcases q with q | q
      · contradiction
      · exact Or.inl q
  exact ⟨hc, fun z => go (Or.inl z), fun z => needClass_c x.1 x.2.1 hc (fun cc => go (Or.inr cc)) (fun nc => kx h (FrQC.rf h) (by unfold spreadV; rw [if_neg (fun u => by rcases u with u | u; exact z u; exact nc u)]))⟩
theorem spreadNow_r {h : HP} {π : PL} {K i : Int} {σ : ST} {P : Int → HP → Prop} (x : RX h π K σ) (hi : (0 ≤ i ∧ i < π 0 0) ∨ i = 12) (k : ∀ h', FrV h h' → h' 56 = h 56 → (∀ k, k ≠ 12 → h' k = h k) → P (spreadA π σ i) h') : wX12_spreadNow 7 (rc i) h P := by
  unfold wX12_spreadNow
  refine tellV_r x hi (by omega) (fun y h' hy hq f1 f2 f3 f4 => ⟨by omega, fun t4 h4 => ?_⟩)
  have : t4 = spreadA π σ i := by
    unfold spreadA
    by_cases z : y = 0
    · rw [h4.1 z]
      by_cases w : grtV π σ i (-1) (π 0 0).toNat = -1
      · rw [if_pos w]
      · have := hq.mpr w; omega
    · have y1 : y = 1 := by omega
      rw [h4.2 z, if_neg (hq.mp y1), (f4 y1).1, (f4 y1).2]
  rw [this]
  exact k h' f1 f2 f3
theorem spreadQ_r {h : HP} {π : PL} {K c n : Int} {σ : ST} {P : Int → HP → Prop} (x0 : RY h π K σ) (hT : σ 0 0 0 ≤ 2000) (hc : inR c) (hn : inR n)
    (k : ∀ h' y e v, OkR h h' e → spreadV π σ c n = (e, v) → (e = 0 → y = v) → P y h') : wX12_spread 7 c n h P := by
  unfold wX12_spread
  intro h1 e1
  have o1 : OkR h h1 0 := by rw [e1]; exact OkR.start x0.2 0
  have y1 := x0.ok o1
  have x := y1.1
  have n12 := x.1.1.2.1
  have t0 := x.2.2.1.1
  have go : (c = -1 ∨ (0 ≤ c ∧ c < π 0 0)) → wX12_spread_24 7 c n P h1 := by
    intro q
    unfold wX12_spread_24
    refine isIn_r hn (by omega) (by omega) (fun y5 hy5 hq5 => ⟨by omega, fun z5 => ?_, fun z5 => fail_r (k _ 0 2 0 (o1.fail 2) (by unfold spreadV; rw [if_pos q, if_neg (fun u => by have := hq5.mpr u; omega)]) (fun z => by omega))⟩)
    have rn := hq5.mp (by omega)
    have hi : (0 ≤ (if c = -1 then 12 else c) ∧ (if c = -1 then 12 else c) < π 0 0) ∨ (if c = -1 then 12 else c) = 12 := by
      split
      · exact Or.inr rfl
      · rcases q with q | q
        · contradiction
        · exact Or.inl q
    have ec : rc (if c = -1 then 12 else c) = c := by
      by_cases z : c = -1
      · rw [if_pos z, z]; rfl
      · rw [if_neg z]; unfold rc; rw [if_neg (by omega)]
    generalize hV : spreadV π σ c n = V at *
    unfold spreadV at hV
    rw [if_pos q, if_pos rn] at hV
    generalize hiv : (if c = -1 then 12 else c) = i at *
    refine remember_s (fun h8 f8 s8 => ?_)
    have i8 : IdleR h8 := y1.2.f12 (by rw [f8 12 (by decide)])
    have x8 := x.f63 f8
    rw [← ec]
    refine spreadNow_r x8 hi (fun h9 f9 e9 k9 => ?_)
    have s9 := s8.u f9.u
    have x9 : RX h9 π K σ := ⟨x.1, x8.2.1.congr (fun k k1 k2 => k9 k (by omega)), x.2.2.1, by rw [e9]; exact x8.2.2.2⟩
    have idv : ∀ {ha hb : HP}, FrV ha hb → IdleR ha → IdleR hb := by
      intro ha hb f ii
      unfold IdleR at *
      rw [f.2 29 (by decide) (by decide), f.2 32 (by decide) (by decide), f.2 31 (by decide) (by decide), f.2 33 (by decide) (by decide)]
      exact ii
    have fin : ∀ (hh : HP) (v : Int), FrS h1 hh → IdleR hh → hh 12 7 1 = h1 12 7 1 → V = (0, v) → wX12_back 7 v hh (fun x24 h23 => P x24 h23) := by
      intro hh v s ii ec e
      exact back_s s (fun h' g1 g2 g3 => k h' v 0 v (o1.two g2 (ii.f12 (by rw [g1 12 (by decide)])) (by rw [g1 12 (by decide)]; exact ec)) e (fun _ => rfl))
    unfold spR at hV
    have loop : ∀ (d : Nat) (m most : Int) (hh : HP) (ρ : ST), (n - m).toNat = d → 0 ≤ m → m ≤ n → FrS h1 hh → IdleR hh → hh 12 7 1 = h1 12 7 1 → RX hh π K ρ → ρ 0 0 0 = σ 0 0 0 + m → (0 ≤ most ∧ most ≤ 20000000) → ((0 : Int), runA π (spS π i) (fun s => s) d ρ most) = V →
        wX12_spread_54 7 (rc i) n (fun l20 h21 => wX12_back 7 l20 h21 (fun x23 h22 => P x23 h22)) (d + 1) most m hh := by
      intro d
      induction d with
      | zero =>
        intro m most hh ρ hd m0 m1 s ii ec xx tt hl' hv
        rw [wX12_spread_54]
        exact ⟨by omega, by omega, fun _ => fin hh _ s ii ec (by rw [← hv]; rfl), fun c => absurd (by omega) c⟩
      | succ d ih =>
        intro m most hh ρ hd m0 m1 s ii ec xx tt hl' hv
        have hd1 : (n - (m + 1)).toNat = d := by omega
        rw [wX12_spread_54]
        refine ⟨by omega, by omega, fun c => absurd c (by omega), fun _ => unit0_r xx ii (by omega) (fun h' u1 u2 u3 u4 u5 => ?_)⟩
        have ut := (unitA_time x.1 xx.2.2.1).1
        have sr := spreadA_rng x.1 u3.2.2.1 i
        have cb := u3.2.2.1.2.2.1
        have t2 := u3.2.2.1.1
        refine spreadNow_r u3 hi (fun h15 f15 e15 k15 => ⟨by omega, by omega, ?_⟩)
        have st : spS π i most ρ (unitA π ρ) = Sum.inl (max most (spreadA π (unitA π ρ) i)) := rfl
        rw [runA_l st] at hv
        have x15 : RX h15 π K (unitA π ρ) := ⟨x.1, u3.2.1.congr (fun k k1 k2 => k15 k (by omega)), u3.2.2.1, by rw [e15]; exact u3.2.2.2⟩
        refine ih (m + 1) _ h15 _ hd1 (by omega) (by omega) ((s.u u1).u f15.u) (idv f15 u2) ?_ x15 (by omega) (by omega) hv
        rw [f15.2 1 (by decide) (by decide), u1.2 1 (by decide) (by decide) (by decide)]; exact ec
    have sr := spreadA_rng x.1 x.2.2.1 i
    have cb := x.2.2.1.2.2.1
    exact ⟨_, loop n.toNat 0 (spreadA π σ i) h9 σ (by rw [show n - 0 = n by omega]) (by omega) (by omega) s9 (idv f9 i8) (by rw [f9.2 1 (by decide) (by decide), f8 12 (by decide)]) x9 (by omega) (by omega) hV⟩
  refine ⟨hc, fun z => go (Or.inl z), fun z => isClass_r x.1 x.2.1 hc (fun y hy hq => ⟨by omega, fun w => go (Or.inr (hq.mp (by omega))), fun w => fail_r (k _ 0 1 0 (o1.fail 1) (by unfold spreadV; rw [if_neg (fun u => by rcases u with u | u; exact z u; have := hq.mpr u; omega)]) (fun z => by omega))⟩)⟩
