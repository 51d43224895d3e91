/-! waits, blocked -/
theorem leaf_only {π : PL} (ht : treeOK π) {l k : Int} (l0 : 0 ≤ l) (l1 : l < π 0 0) (hk : kids π l = 0) (k0 : 0 ≤ k) (k1 : k < π 0 0) (h : inCh π k l) : k = l := by
  have hl := hel_leaf (σ := fun _ b _ => if b = k then 1 else 0) ht l0 l1 hk
  have hp := (hel_pos (π := π) (σ := fun _ b _ => if b = k then 1 else 0) (b := l) (fun b _ _ => by show (0 : Int) ≤ if b = k then 1 else 0; split <;> omega)).mpr ⟨k, k0, k1, h, by show (0 : Int) < if k = k then 1 else 0; rw [if_pos rfl]; omega⟩
  rw [hl] at hp
  have hp' : (0 : Int) < if l = k then 1 else 0 := hp
  by_cases c : l = k
  · exact c.symm
  · rw [if_neg c] at hp'; omega
/-- what a leaf has sent in a unit -/
theorem unit_sent {π : PL} {K : Int} {σ : ST} (hp : PlanOK π) (inv : AInv π K σ) {b : Int} (b0 : 0 ≤ b) (b1 : b < π 0 0) :
    (chU π σ ≠ -1 → inCh π (chU π σ) b → unitA π σ 1 b 0 = σ 1 b 0 + tellsA π (π 0 1).toNat σ 7 (chU π σ) 0) ∧ (¬ (chU π σ ≠ -1 ∧ inCh π (chU π σ) b) → unitA π σ 1 b 0 = σ 1 b 0) := by
  have n8 := hp.2.1
  have inv1 : AInv π (K + (π 0 1).toNat) (tellsA π (π 0 1).toNat σ) := (tellsA_inv hp inv (π 0 1).toNat (by omega)).1
  have t1 := tellsA_k (π := π) (σ := σ) (k := 1) (Or.inl rfl) (π 0 1).toNat
  generalize hτ : tellsA π (π 0 1).toNat σ = τ at *
  have eu : chU π σ = chT π τ := by unfold chU; rw [hτ]
  have ua : unitA π σ = tickA (midA π τ) := by unfold unitA; rw [hτ]
  rw [ua, eu, tickA_k (by decide)]
  unfold chT midA
  by_cases q : τ 0 1 0 = 0
  · rw [if_pos q, if_pos q, chooseA_ch]
    by_cases c : chA π τ = -1
    · rw [if_pos c, t1]; exact ⟨fun u => absurd c u, fun _ => rfl⟩
    · rw [if_neg c]
      rcases chA_rng hp.1 inv1 with r | r
      · exact absurd r c
      · have s := (sendA_all (σ := τ) (g := chG π τ) hp.1 r.1 r.2.1).2.2.2.2.1 b b0 b1
        refine ⟨fun _ u => ?_, fun u => ?_⟩
        · rw [(s.1 u).1, t1]
        · rw [(s.2 (fun v => u ⟨c, v⟩)).1, t1]
  · rw [if_neg q, if_neg q, t1]; exact ⟨fun u => absurd rfl u, fun _ => rfl⟩
def wtS (leaf t0 left : Int) (σ τ : ST) : Sum Int Int := if σ 0 2 0 < τ 0 2 0 ∧ τ 0 4 0 = leaf then (if left - 1 = 0 then Sum.inr (τ 0 0 0 - 1 - t0) else Sum.inl (left - 1)) else Sum.inl left
noncomputable def wtA (π : PL) (leaf t0 : Int) (d : Nat) (ρ : ST) (left : Int) : Int := runA π (wtS leaf t0) (fun _ => -1) d ρ left
theorem waitOnLater_c {h : HP} {π : PL} {K w leaf : Int} {σ ρ0 : ST} {P : Int → HP → Prop} (x : LX h 10 π K σ) (xl : LX h 12 π K ρ0) (ht : ρ0 0 0 0 = σ 0 0 0) (hT : σ 0 0 0 ≤ 2000) (rw' : 1 ≤ w ∧ w ≤ 400) (hl : queued π σ leaf)
    (k : ∀ h', FrL 12 h h' → P (wtA π leaf (σ 0 0 0) w.toNat ρ0 (σ 6 leaf 0)) h') : wX2_waitOnLater 0 leaf w h P := by
  have n12 := x.1.1.2.1
  have inv := xl.2.2.1
  have t0 := x.2.2.1.1
  have ql := x.2.2.1.qln leaf hl.1.1 hl.1.2
  have hl3 := hl.2.2
  have hl1 := hl.1
  unfold wX2_waitOnLater
  rw [show h 6 10 1 = σ 0 0 0 from x.2.2.2.1.1.1, (x.held (Or.inl hl.1)).1, hel_leaf x.1.1 hl.1.1 hl.1.2 hl.2.1]
  generalize hV : wtA π leaf (σ 0 0 0) w.toNat ρ0 (σ 6 leaf 0) = V at *
  unfold wtA at hV
  have loop : ∀ (d m : Nat) (l5 left : Int) (hh : HP), w - m ≤ d → m ≤ w → 0 ≤ l5 → l5 ≤ m → FrL 12 h hh → LineC hh 12 π (goA π m ρ0) → (1 ≤ left ∧ left ≤ 20) → runA π (wtS leaf (σ 0 0 0)) (fun _ => -1) (w.toNat - m) (goA π m ρ0) left = V →
      wX2_waitOnLater_24 0 leaf w (σ 0 0 0 + w) (fun h18 => P (-1) h18) (fun h19 => P (((h19 6 12 1) - 1) - (h19 6 10 1)) h19) (d + 1) left l5 hh := by
    intro d
    induction d with
    | zero =>
      intro m l5 left hh hd hm hl0 hl1 fr lc hn hv
      have em : w.toNat = m := by omega
      have ga := (goA_at x.1 inv (by omega) (m := m) (by omega)).2
      have tt : hh 6 12 1 = σ 0 0 0 + m := by rw [lc.1.1.1, ga, ht]
      have ev : (-1 : Int) = V := by rw [← hv, show w.toNat - m = 0 by omega]; rfl
      rw [wX2_waitOnLater_24, tt]
      exact ⟨by omega, by omega, fun _ => by rw [ev]; exact k hh fr, fun _ => ⟨by omega, by omega, fun _ => by rw [ev]; exact k hh fr, fun c => absurd (by omega) c⟩⟩
    | succ d ih =>
      intro m l5 left hh hd hm hl0 hl1 fr lc hn hv
      have ga := goA_at x.1 inv (by omega) (m := m) (by omega)
      have tt : hh 6 12 1 = σ 0 0 0 + m := by rw [lc.1.1.1, ga.2, ht]
      have ends : w ≤ m → P (-1) hh := by
        intro em
        have ev : (-1 : Int) = V := by rw [← hv, show w.toNat - m = 0 by omega]; rfl
        rw [ev]; exact k hh fr
      rw [wX2_waitOnLater_24, tt]
      refine ⟨by omega, by omega, fun c => ends (by omega), fun c => ⟨by omega, by omega, fun c2 => ends (by omega), fun c2 => ?_⟩⟩
      have xm := x.cp fr ga.1 lc
      have gt := ga.2
      generalize hρ : goA π m ρ0 = ρ at *
      refine advance_c xm (by omega) (fun h8 n f8 n1 n2 l8 q8 => ?_)
      have hs : ∀ τ : ST, (∀ k, k ≠ 0 → τ k = ρ k) → (∀ i, i ≠ 0 → i ≠ 1 → τ 0 i 0 = ρ 0 i 0) → wtS leaf (σ 0 0 0) left τ (tickA τ) = Sum.inl left := by
        intro τ _ _
        unfold wtS
        rw [tickA_0 (by decide) (by decide), if_neg (fun u => by omega)]
      obtain ⟨τ, g1, g2, g3, g4, g5, g6⟩ := runA_adv (fin := fun _ => -1) (D := w.toNat - m) (n := n) ga.1.2.1.1 q8 hs n1 (by omega)
      have gm : goA π n ρ = goA π (m + n) ρ0 := by rw [← hρ, goA_add]
      have ga2 := goA_at x.1 inv (by omega) (m := m + n) (by omega)
      have fr8 := fr.tr f8
      have e810 : h8 6 10 1 = σ 0 0 0 := (x.f12 fr8).2.2.2.1.1.1
      have ln := l8.1.1
      rw [g5] at ln
      have lc3 : hh 6 12 3 = τ 0 2 0 := by rw [lc.1.1.2.2.1, g2 2 (by decide) (by decide)]
      have cb := ga2.1.2.2.1
      have t2 := ga2.1.1
      have lb := ga2.1.2.2.2.2.1
      rw [← gm, g5] at cb t2 lb
      have cρ := ga.1.2.2.1
      have tρ := ga.1.1
      have τ2 : τ 0 2 0 = ρ 0 2 0 := g2 2 (by decide) (by decide)
      rw [ln.2.2.1, ln.2.2.2.2.1, ln.1, lc3, e810]
      have eD : w.toNat - m - n = w.toNat - (m + n) := by omega
      have goOn : ∀ left', (1 ≤ left' ∧ left' ≤ 20) → wtS leaf (σ 0 0 0) left τ (unitA π τ) = Sum.inl left' → wX2_waitOnLater_116 0 leaf w left' (σ 0 0 0 + w) l5 (fun y3 y5 hy => wX2_waitOnLater_24 0 leaf w (σ 0 0 0 + w) (fun h18 => P (-1) h18) (fun h19 => P (((h19 6 12 1) - 1) - (h19 6 10 1)) h19) (d + 1) y3 y5 hy) h8 := by
        intro left' hl' st
        rw [g6, runA_l st, eD] at hv
        unfold wX2_waitOnLater_116
        refine ih (m + n) (l5 + 1) left' h8 (by omega) (by omega) (by omega) (by omega) fr8 (by rw [← gm]; exact l8) hl' ?_
        rw [← gm, g5]; exact hv
      refine ⟨by omega, by omega, fun c3 => goOn left hn (by unfold wtS; rw [if_neg (fun u => by omega)]), fun c3 => ⟨by rcases lb with z | z <;> omega, by omega, fun c4 => goOn left hn (by unfold wtS; rw [if_neg (fun u => c4 u.2)]), fun c4 => ⟨by omega, fun c5 => ?_, fun c5 => ?_⟩⟩⟩
      · exact goOn (left + -1) (by omega) (by unfold wtS; rw [if_pos ⟨by omega, c4⟩, if_neg (by omega)]; rfl)
      · have st : wtS leaf (σ 0 0 0) left τ (unitA π τ) = Sum.inr (unitA π τ 0 0 0 - 1 - σ 0 0 0) := by unfold wtS; rw [if_pos ⟨by omega, c4⟩, if_pos (by omega)]
        rw [g6, runA_r st] at hv
        rw [hv]; exact k h8 fr8
  have := loop w.toNat 0 0 (σ 6 leaf 0) h (by omega) (by omega) (by omega) (by omega) (FrL.rf _ _) xl.2.2.2 (by omega) hV
  exact ⟨by omega, _, this⟩
noncomputable def waitsV (π : PL) (σ : ST) (leaf : Int) : Int × Int := @ite (Int × Int) (queued π σ leaf) (Classical.propDecidable _) (0, wtA π leaf (σ 0 0 0) 400 σ (σ 6 leaf 0)) (1, 0)
theorem waits_c {h : HP} {π : PL} {K leaf : Int} {σ : ST} {P : Int → HP → Prop} {X : Nat → HP → Prop} (x : LX h 10 π K σ) (hT : σ 0 0 0 ≤ 2000) (hc : inR leaf)
    (k : ∀ h' v, FrQC h h' → waitsV π σ leaf = (0, v) → P v h') (kx : ∀ h', FrQC h h' → waitsV π σ leaf = (1, 0) → X 0 h') : wX11_waits 0 leaf h P X := by
  unfold wX11_waits
  refine needQueue_c x hc (fun q => ?_) (fun nq => kx h (FrQC.rf h) (by unfold waitsV; rw [if_neg nq]))
  unfold wX2_waitOf
  refine copyL_c (by decide) x.1 x.2.1 x.2.2.2 (fun h1 f1 l1 => ?_)
  exact waitOnLater_c (x.f12 f1) (x.cp f1 x.2.2.1 l1) rfl hT (by omega) q (fun h' f => k h' _ (f1.tr f).q (by unfold waitsV; rw [if_pos q]; rfl))
theorem unitsTill_r {h : HP} {π : PL} {K leaf t0 left : Int} {ρ0 : ST} {P : Int → HP → Prop} (x : RX h π K ρ0) (i : IdleR h) (ht : ρ0 0 0 0 = t0) (hT : t0 ≤ 2000) (hl : 0 ≤ leaf ∧ leaf < 12) (hn : 1 ≤ left ∧ left ≤ 20)
    (k : ∀ h' K' τ, FrU h h' → IdleR h' → RX h' π K' τ → P (wtA π leaf t0 400 ρ0 left) h') : wX12_unitsTill 7 leaf left h P := by
  have tr := x.2.2.1.1
  have n12 := x.1.1.2.1
  unfold wX12_unitsTill
  generalize hV : wtA π leaf t0 400 ρ0 left = V at *
  unfold wtA at hV
  have loop : ∀ (d : Nat) (m lf : Int) (hh : HP) (ρ : ST), (400 - m).toNat = d → 0 ≤ m → m ≤ 400 → FrU h hh → IdleR hh → RX hh π K ρ → ρ 0 0 0 = t0 + m → (1 ≤ lf ∧ lf ≤ 20) → runA π (wtS leaf t0) (fun _ => -1) d ρ lf = V →
      wX12_unitsTill_5 7 leaf left (fun h13 => P (-1) h13) (fun l14 h15 => P l14 h15) (d + 1) lf m hh := by
    intro d
    induction d with
    | zero =>
      intro m lf hh ρ hd m0 m1 fr ii xx tt hl' hv
      rw [wX12_unitsTill_5]
      have ev : (-1 : Int) = V := by rw [← hv]; rfl
      exact ⟨by omega, fun _ => by rw [ev]; exact k hh K ρ fr ii xx, fun c => absurd (by omega) c⟩
    | succ d ih =>
      intro m lf hh ρ hd m0 m1 fr ii xx tt hl' hv
      have hd1 : (400 - (m + 1)).toNat = d := by omega
      rw [wX12_unitsTill_5]
      refine ⟨by omega, fun c => absurd c (by omega), fun _ => unit0_r xx ii (by omega) (fun h' u1 u2 u3 u4 u5 => ?_)⟩
      obtain ⟨w1, w2, w3, w4, w5⟩ := unit_ch x.1 xx.2.2.1
      have ut := (unitA_time x.1 xx.2.2.1).1
      rw [u4]
      refine ⟨⟨by omega, by omega⟩, fun t6 h6 => ?_⟩
      by_cases c : chU π ρ = leaf
      · rw [h6.2 c]
        have cn : chU π ρ ≠ -1 := by omega
        rw [if_neg cn] at w2
        refine ⟨by omega, fun c2 => ?_, fun c2 => ?_⟩
        · have st : wtS leaf t0 lf ρ (unitA π ρ) = Sum.inl (lf - 1) := by unfold wtS; rw [if_pos ⟨by omega, by rw [w3 cn]; exact c⟩, if_neg c2]
          rw [runA_l st] at hv
          exact ih (m + 1) (lf - 1) h' _ hd1 (by omega) (by omega) (fr.tr u1) u2 u3 (by omega) (by omega) hv
        · have st : wtS leaf t0 lf ρ (unitA π ρ) = Sum.inr (unitA π ρ 0 0 0 - 1 - t0) := by unfold wtS; rw [if_pos ⟨by omega, by rw [w3 cn]; exact c⟩, if_pos c2]
          rw [runA_r st] at hv
          rw [show m = V by omega]
          exact k h' K _ (fr.tr u1) u2 u3
      · rw [h6.1 c]
        have st : wtS leaf t0 lf ρ (unitA π ρ) = Sum.inl lf := by
          unfold wtS
          rw [if_neg (fun u => ?_)]
          by_cases cn : chU π ρ = -1
          · rw [if_pos cn] at w2; have := u.1; omega
          · exact c (by rw [← w3 cn]; exact u.2)
        rw [runA_l st] at hv
        refine ⟨by omega, fun c2 => ?_, fun c2 => by omega⟩
        rw [show lf - 0 = lf by omega]
        exact ih (m + 1) lf h' _ hd1 (by omega) (by omega) (fr.tr u1) u2 u3 (by omega) hl' hv
  exact ⟨_, loop 400 0 left h ρ0 rfl (by omega) (by omega) (FrU.rf h) i x (by omega) hn hV⟩
theorem hasPackets_r {h : HP} {π : PL} {K c : Int} {σ : ST} {P : Int → HP → Prop} (x : RX h π K σ) (hc : inR c) (k : ∀ y, (y = 0 ∨ y = 1) → (y = 1 ↔ queued π σ c) → P y h) : wX12_hasPackets 7 c h P := by
  have n12 := x.1.1.2.1
  unfold wX12_hasPackets
  refine isLeafThere_r x.1 x.2.1 hc (fun y hy hq => ⟨⟨by omega, fun z => ?_⟩, fun t6 h6 => ?_⟩)
  · have cc := hq.mp (by omega)
    have q := x.2.2.1.qln c cc.1.1 cc.1.2
    rw [(x.2.2.2.2.2 c cc.1.1 cc.1.2).1.2.2.2.2.2]
    exact ⟨by omega, by omega⟩
  · have : (t6 = 0 ∨ t6 = 1) ∧ (t6 = 1 ↔ queued π σ c) := by
      by_cases z : y = 0
      · rw [h6.1 z]
        exact ⟨Or.inl rfl, fun u => by omega, fun u => by have := hq.mpr ⟨u.1, u.2.1⟩; omega⟩
      · have cc := hq.mp (by omega)
        have h6' := h6.2 z
        rw [(x.2.2.2.2.2 c cc.1.1 cc.1.2).1.2.2.2.2.2] at h6'
        by_cases w : σ 6 c 0 ≤ 0
        · rw [h6'.1 w]; exact ⟨Or.inl rfl, fun u => by omega, fun u => by have := u.2.2; omega⟩
        · rw [h6'.2 w]; exact ⟨Or.inr rfl, fun _ => ⟨cc.1, cc.2, by omega⟩, fun _ => rfl⟩
    exact ⟨this.1, k t6 this.1 this.2⟩
theorem waits_r {h : HP} {π : PL} {K leaf : Int} {σ : ST} {P : Int → HP → Prop} (x0 : RY h π K σ) (hT : σ 0 0 0 ≤ 2000) (hc : inR leaf)
    (k : ∀ h' y e v, OkR h h' e → waitsV π σ leaf = (e, v) → (e = 0 → y = v) → P y h') : wX12_waits 7 leaf h P := by
  unfold wX12_waits
  intro h1 e1
  have o1 : OkR h h1 0 := by rw [e1]; exact OkR.start x0.2 0
  have y1 := x0.ok o1
  have x := y1.1
  have n12 := x.1.1.2.1
  refine hasPackets_r x hc (fun y hy hq => ⟨by omega, fun z => ?_, fun z => fail_r (k _ 0 1 0 (o1.fail 1) (by unfold waitsV; rw [if_neg (fun u => by have := hq.mpr u; omega)]) (fun z => by omega))⟩)
  have q := hq.mp (by omega)
  have q1 := q.1
  have q3 := q.2.2
  have ql := x.2.2.1.qln leaf q.1.1 q.1.2
  refine remember_s (fun h10 f10 s10 => ?_)
  have i10 : IdleR h10 := y1.2.f12 (by rw [f10 12 (by decide)])
  have x10 := x.f63 f10
  rw [(x10.2.2.2.2.2 leaf q.1.1 q.1.2).1.2.2.2.2.2]
  refine ⟨by omega, unitsTill_r x10 i10 rfl hT (by omega) (by omega) (fun h' K' τ u1 u2 u3 => ?_)⟩
  refine back_s (s10.u u1) (fun h'' g1 g2 g3 => k h'' _ 0 _ (o1.two g2 (u2.f12 (by rw [g1 12 (by decide)])) (by rw [g1 12 (by decide), u1.2 1 (by decide) (by decide) (by decide), f10 12 (by decide)])) (by unfold waitsV; rw [if_pos q]) (fun _ => rfl))
/-! blocked -/
def blS (leaf b : Int) (s : Int × Int) (σ τ : ST) : Sum (Int × Int) Int := if σ 0 2 0 < τ 0 2 0 ∧ τ 0 4 0 = leaf then (if s.1 - 1 = 0 then Sum.inr s.2 else Sum.inl (s.1 - 1, s.2 + (τ 1 b 0 - σ 1 b 0))) else Sum.inl (s.1, s.2 + (τ 1 b 0 - σ 1 b 0))
noncomputable def blA (π : PL) (leaf b : Int) (d : Nat) (ρ : ST) (s : Int × Int) : Int := runA π (blS leaf b) (fun s => s.2) d ρ s
noncomputable def blockedV (π : PL) (σ : ST) (leaf b : Int) : Int × Int := @ite (Int × Int) (queued π σ leaf ∧ (0 ≤ b ∧ b < π 0 0) ∧ kids π b = 0) (Classical.propDecidable _) (0, blA π leaf b 400 σ (σ 6 leaf 0, 0)) (1, 0)
theorem bytesAhead_c {h : HP} {π : PL} {K leaf b : Int} {σ : ST} {P : Int → HP → Prop} (x : LX h 10 π K σ) (hT : σ 0 0 0 ≤ 2000) (hl : queued π σ leaf) (hb : 0 ≤ b ∧ b < π 0 0)
    (k : ∀ h', FrL 12 h h' → P (blA π leaf b 400 σ (σ 6 leaf 0, 0)) h') : wX2_bytesAhead 0 leaf b h P := by
  have n12 := x.1.1.2.1
  have inv := x.2.2.1
  have t0 := x.2.2.1.1
  have ql := x.2.2.1.qln leaf hl.1.1 hl.1.2
  have hl3 := hl.2.2
  have hl1 := hl.1
  unfold wX2_bytesAhead
  refine copyL_c (by decide) x.1 x.2.1 x.2.2.2 (fun h1 f1 l1 => ?_)
  have x1 := x.f12 f1
  rw [show h1 6 10 1 = σ 0 0 0 from x1.2.2.2.1.1.1, (x1.held (Or.inl hl.1)).1, hel_leaf x.1.1 hl.1.1 hl.1.2 hl.2.1]
  generalize hV : blA π leaf b 400 σ (σ 6 leaf 0, 0) = V at *
  unfold blA at hV
  have loop : ∀ (d m : Nat) (l6 left sum : Int) (hh : HP), 400 - m ≤ d → m ≤ 400 → 0 ≤ l6 → l6 ≤ m → FrL 12 h hh → LineC hh 12 π (goA π m σ) → (1 ≤ left ∧ left ≤ 20) → runA π (blS leaf b) (fun s => s.2) (400 - m) (goA π m σ) (left, sum) = V →
      wX2_bytesAhead_40 0 leaf b (σ 0 0 0 + 400) (fun l20 h21 => P l20 h21) (fun l22 h23 => P l22 h23) (d + 1) left sum l6 hh := by
    intro d
    induction d with
    | zero =>
      intro m l6 left sum hh hd hm hl0 hl1 fr lc hn hv
      have em : m = 400 := by omega
      subst em
      have ga := (goA_at x.1 inv (by omega) (m := 400) (by omega)).2
      have tt : hh 6 12 1 = σ 0 0 0 + 400 := by rw [lc.1.1.1, ga]; rfl
      have ev : sum = V := by rw [← hv]; rfl
      rw [wX2_bytesAhead_40, tt]
      exact ⟨by omega, fun _ => by rw [ev]; exact k hh fr, fun _ => ⟨by omega, by omega, fun _ => by rw [ev]; exact k hh fr, fun c => absurd (by omega) c⟩⟩
    | succ d ih =>
      intro m l6 left sum hh hd hm hl0 hl1 fr lc hn hv
      have ga := goA_at x.1 inv (by omega) (m := m) (by omega)
      have tt : hh 6 12 1 = σ 0 0 0 + m := by rw [lc.1.1.1, ga.2]
      have ends : 400 ≤ m → P sum hh := by
        intro em
        have ev : sum = V := by rw [← hv, show 400 - m = 0 by omega]; rfl
        rw [ev]; exact k hh fr
      rw [wX2_bytesAhead_40, tt]
      refine ⟨by omega, fun c => ends (by omega), fun c => ⟨by omega, by omega, fun c2 => ends (by omega), fun c2 => ⟨by omega, ?_⟩⟩⟩
      have xm := x.cp fr ga.1 lc
      have gt := ga.2
      generalize hρ : goA π m σ = ρ at *
      refine advance_c xm (by omega) (fun h8 n f8 n1 n2 l8 q8 => ?_)
      have hs : ∀ τ : ST, (∀ k, k ≠ 0 → τ k = ρ k) → (∀ i, i ≠ 0 → i ≠ 1 → τ 0 i 0 = ρ 0 i 0) → blS leaf b (left, sum) τ (tickA τ) = Sum.inl (left, sum) := by
        intro τ _ _
        unfold blS
        rw [tickA_0 (by decide) (by decide), if_neg (fun u => by omega), tickA_k (by decide)]
        show Sum.inl (left, sum + (τ 1 b 0 - τ 1 b 0)) = Sum.inl (left, sum)
        rw [Int.sub_self, Int.add_zero]
      obtain ⟨τ, g1, g2, g3, g4, g5, g6⟩ := runA_adv (fin := fun s : Int × Int => s.2) (D := 400 - m) (n := n) ga.1.2.1.1 q8 hs n1 (by omega)
      have gm : goA π n ρ = goA π (m + n) σ := by rw [← hρ, goA_add]
      have ga2 := goA_at x.1 inv (by omega) (m := m + n) (by omega)
      have fr8 := fr.tr f8
      have ln := l8.1.1
      rw [g5] at ln
      have lc3 : hh 6 12 3 = τ 0 2 0 := by rw [lc.1.1.2.2.1, g2 2 (by decide) (by decide)]
      have cb := ga2.1.2.2.1
      have t2 := ga2.1.1
      have lb := ga2.1.2.2.2.2.1
      rw [← gm, g5] at cb t2 lb
      have cρ := ga.1.2.2.1
      have tρ := ga.1.1
      have τ2 : τ 0 2 0 = ρ 0 2 0 := g2 2 (by decide) (by decide)
      have sb : hh 24 12 b = τ 1 b 0 := by rw [(lc.1.2.1 b hb.1 hb.2).1, g1 1 (by decide)]
      have sb8 : h8 24 12 b = unitA π τ 1 b 0 := by rw [(l8.1.2.1 b hb.1 hb.2).1, g5]
      rw [ln.2.2.1, ln.2.2.2.2.1, lc3, sb]
      have eD : 400 - m - n = 400 - (m + n) := by omega
      have goOn : ∀ left', (1 ≤ left' ∧ left' ≤ 20) → blS leaf b (left, sum) τ (unitA π τ) = Sum.inl (left', sum + (unitA π τ 1 b 0 - τ 1 b 0)) → wX2_bytesAhead_130 0 leaf b left' sum (σ 0 0 0 + 400) l6 (τ 1 b 0) (fun y3 y4 y6 hy => wX2_bytesAhead_40 0 leaf b (σ 0 0 0 + 400) (fun l20 h21 => P l20 h21) (fun l22 h23 => P l22 h23) (d + 1) y3 y4 y6 hy) h8 := by
        intro left' hl' st
        rw [g6, runA_l st, eD] at hv
        unfold wX2_bytesAhead_130
        rw [sb8]
        refine ⟨by omega, ih (m + n) (l6 + 1) left' _ h8 (by omega) (by omega) (by omega) (by omega) fr8 (by rw [← gm]; exact l8) hl' ?_⟩
        rw [← gm, g5]; exact hv
      refine ⟨by omega, by omega, fun c3 => goOn left hn (by unfold blS; rw [if_neg (fun u => by omega)]), fun c3 => ⟨by rcases lb with z | z <;> omega, by omega, fun c4 => goOn left hn (by unfold blS; rw [if_neg (fun u => c4 u.2)]), fun c4 => ⟨by omega, fun c5 => ?_, fun c5 => ?_⟩⟩⟩
      · exact goOn (left + -1) (by omega) (by unfold blS; rw [if_pos ⟨by omega, c4⟩, if_neg (by show ¬ left - 1 = 0; omega)]; rfl)
      · have st : blS leaf b (left, sum) τ (unitA π τ) = Sum.inr sum := by unfold blS; rw [if_pos ⟨by omega, c4⟩, if_pos (by show left - 1 = 0; omega)]
        rw [g6, runA_r st] at hv
        rw [hv]; exact k h8 fr8
  have := loop 400 0 0 (σ 6 leaf 0) 0 h1 (by omega) (by omega) (by omega) (by omega) f1 l1 (by omega) hV
  exact ⟨by omega, _, this⟩
theorem blocked_c {h : HP} {π : PL} {K leaf b : Int} {σ : ST} {P : Int → HP → Prop} {X : Nat → HP → Prop} (x : LX h 10 π K σ) (hT : σ 0 0 0 ≤ 2000) (hc : inR leaf) (hb : inR b)
    (k : ∀ h' v, FrQC h h' → blockedV π σ leaf b = (0, v) → P v h') (kx : ∀ h', FrQC h h' → blockedV π σ leaf b = (1, 0) → X 0 h') : wX11_blocked 0 leaf b h P X := by
  unfold wX11_blocked
  refine needQueue_c x hc (fun q => ?_) (fun nq => kx h (FrQC.rf h) (by unfold blockedV; rw [if_neg (fun u => nq u.1)]))
  refine needLeaf_c x.1 x.2.1 hb (fun q2 => ?_) (fun nq => kx h (FrQC.rf h) (by unfold blockedV; rw [if_neg (fun u => nq u.2)]))
  exact bytesAhead_c x hT q q2.1 (fun h' f => k h' _ f.q (by unfold blockedV; rw [if_pos ⟨q, q2⟩]))
theorem blocked_r {h : HP} {π : PL} {K leaf b : Int} {σ : ST} {P : Int → HP → Prop} (x0 : RY h π K σ) (hT : σ 0 0 0 ≤ 2000) (hc : inR leaf) (hb : inR b)
    (k : ∀ h' y e v, OkR h h' e → blockedV π σ leaf b = (e, v) → (e = 0 → y = v) → P y h') : wX12_blocked 7 leaf b h P := by
  unfold wX12_blocked
  intro h1 e1
  have o1 : OkR h h1 0 := by rw [e1]; exact OkR.start x0.2 0
  have y1 := x0.ok o1
  have x := y1.1
  have n12 := x.1.1.2.1
  have t0 := x.2.2.1.1
  have ff : blockedV π σ leaf b = (1, 0) → P 0 (up h1 12 7 1 1) := fun ev => k _ 0 1 0 (o1.fail 1) ev (fun z => by omega)
  refine hasPackets_r x hc (fun y hy hq => ⟨by omega, fun z => fail_r (ff (by unfold blockedV; rw [if_neg (fun u => by have := hq.mpr u.1; omega)])), fun z => ?_⟩)
  refine isLeafThere_r x.1 x.2.1 hb (fun y2 hy2 hq2 => ⟨by omega, fun z2 => ?_, fun z2 => fail_r (ff (by unfold blockedV; rw [if_neg (fun u => by have := hq2.mpr u.2; omega)]))⟩)
  have q := hq.mp (by omega)
  have qb := hq2.mp (by omega)
  have q1 := q.1
  have q3 := q.2.2
  have ql := x.2.2.1.qln leaf q.1.1 q.1.2
  refine remember_s (fun h10 f10 s10 => ?_)
  have i10 : IdleR h10 := y1.2.f12 (by rw [f10 12 (by decide)])
  have x10 := x.f63 f10
  rw [(x10.2.2.2.2.2 leaf q.1.1 q.1.2).1.2.2.2.2.2]
  generalize hV : blA π leaf b 400 σ (σ 6 leaf 0, 0) = V at *
  have vV : blockedV π σ leaf b = (0, V) := by unfold blockedV; rw [if_pos ⟨q, qb⟩, hV]
  unfold blA at hV
  have fin : ∀ (hh : HP) (v : Int), FrS h1 hh → IdleR hh → hh 12 7 1 = h1 12 7 1 → v = V → wX12_back 7 v hh (fun x24 h23 => P x24 h23) := by
    intro hh v s ii ec e
    refine back_s s (fun h' g1 g2 g3 => k h' v 0 v (o1.two g2 (ii.f12 (by rw [g1 12 (by decide)])) (by rw [g1 12 (by decide)]; exact ec)) (by rw [vV, e]) (fun _ => rfl))
  have loop : ∀ (d : Nat) (m left sum : Int) (hh : HP) (ρ : ST), (400 - m).toNat = d → 0 ≤ m → m ≤ 400 → FrS h1 hh → IdleR hh → hh 12 7 1 = h1 12 7 1 → RX hh π K ρ → ρ 0 0 0 = σ 0 0 0 + m → (1 ≤ left ∧ left ≤ 20) → runA π (blS leaf b) (fun s => s.2) d ρ (left, sum) = V →
      wX12_blocked_51 7 leaf b (fun l36 h37 => wX12_back 7 l36 h37 (fun x39 h38 => P x39 h38)) (d + 1) left sum m hh := by
    intro d
    induction d with
    | zero =>
      intro m left sum hh ρ hd m0 m1 s ii ec xx tt hl' hv
      rw [wX12_blocked_51]
      exact ⟨by omega, fun _ => fin hh _ s ii ec (by rw [← hv]; rfl), fun c => absurd (by omega) c⟩
    | succ d ih =>
      intro m left sum hh ρ hd m0 m1 s ii ec xx tt hl' hv
      have hd1 : (400 - (m + 1)).toNat = d := by omega
      rw [wX12_blocked_51]
      refine ⟨by omega, fun c => absurd c (by omega), fun _ => ⟨by omega, fun c => by omega, fun _ => unit0_r xx ii (by omega) (fun h' u1 u2 u3 u4 u5 => ?_)⟩⟩
      obtain ⟨w1, w2, w3, w4, w5⟩ := unit_ch x.1 xx.2.2.1
      obtain ⟨v1, v2⟩ := unit_sent x.1 xx.2.2.1 qb.1.1 qb.1.2
      have ut := (unitA_time x.1 xx.2.2.1).1
      have s' := s.u u1
      have ec' : h' 12 7 1 = h1 12 7 1 := by rw [u1.2 1 (by decide) (by decide) (by decide)]; exact ec
      rw [u4]
      refine ⟨⟨by omega, by omega⟩, fun t21 h21 => ?_⟩
      have t21r : 0 ≤ t21 ∧ t21 ≤ 1 := by
        by_cases c : chU π ρ = leaf
        · rw [h21.2 c]; omega
        · rw [h21.1 c]; omega
      refine ⟨⟨by omega, by omega, fun _ => by omega⟩, fun t26 h26 => ?_⟩
      -- what the other sends
      have sent : ∀ (hb' : chU π ρ = b), unitA π ρ 1 b 0 - ρ 1 b 0 = h' 12 7 27 := by
        intro hb'
        have cn : chU π ρ ≠ -1 := by omega
        rw [v1 cn (by rw [hb']; exact inCh_rf _ _), (u5 cn).2]; omega
      have unsent : chU π ρ ≠ b → unitA π ρ 1 b 0 = ρ 1 b 0 := by
        intro hb'
        refine v2 (fun u => ?_)
        rcases w1 with r | r
        · exact u.1 r
        · exact hb' (leaf_only x.1.1 qb.1.1 qb.1.2 qb.2 r.1 r.2.1 u.2)
      by_cases c : chU π ρ = leaf
      · have cn : chU π ρ ≠ -1 := by omega
        rw [if_neg cn] at w2
        rw [h21.2 c] at h26 ⊢
        by_cases c2 : left - 1 = 0
        · have st : blS leaf b (left, sum) ρ (unitA π ρ) = Sum.inr sum := by unfold blS; rw [if_pos ⟨by omega, by rw [w3 cn]; exact c⟩, if_pos c2]
          rw [runA_r st] at hv
          have e26 : t26 = 0 := by
            by_cases c3 : chU π ρ = b
            · exact (h26.2 c3).1 (by omega)
            · exact h26.1 c3
          rw [c2, e26, wX12_blocked_51]
          have f0 := fin h' (sum + 0) s' u2 ec' (by omega)
          exact ⟨by omega, fun _ => f0, fun _ => ⟨by omega, fun _ => f0, fun c4 => absurd (Int.le_refl _) c4⟩⟩
        · have st : blS leaf b (left, sum) ρ (unitA π ρ) = Sum.inl (left - 1, sum + (unitA π ρ 1 b 0 - ρ 1 b 0)) := by unfold blS; rw [if_pos ⟨by omega, by rw [w3 cn]; exact c⟩, if_neg c2]
          rw [runA_l st] at hv
          have e26 : t26 = unitA π ρ 1 b 0 - ρ 1 b 0 := by
            by_cases c3 : chU π ρ = b
            · rw [(h26.2 c3).2 (by omega), sent c3]
            · rw [h26.1 c3, unsent c3]; omega
          rw [e26]
          exact ih (m + 1) (left - 1) _ h' _ hd1 (by omega) (by omega) s' u2 ec' u3 (by omega) (by omega) hv
      · rw [h21.1 c] at h26 ⊢
        have st : blS leaf b (left, sum) ρ (unitA π ρ) = Sum.inl (left, sum + (unitA π ρ 1 b 0 - ρ 1 b 0)) := by
          unfold blS
          rw [if_neg (fun u => ?_)]
          by_cases cn : chU π ρ = -1
          · rw [if_pos cn] at w2; have := u.1; omega
          · exact c (by rw [← w3 cn]; exact u.2)
        rw [runA_l st] at hv
        have e26 : t26 = unitA π ρ 1 b 0 - ρ 1 b 0 := by
          by_cases c3 : chU π ρ = b
          · rw [(h26.2 c3).2 (by omega), sent c3]
          · rw [h26.1 c3, unsent c3]; omega
        rw [e26, show left - 0 = left by omega]
        exact ih (m + 1) left _ h' _ hd1 (by omega) (by omega) s' u2 ec' u3 (by omega) hl' hv
  exact ⟨by omega, _, loop 400 0 (σ 6 leaf 0) 0 h10 σ rfl (by omega) (by omega) s10 i10 (by rw [f10 12 (by decide)]) x10 (by omega) (by omega) hV⟩
