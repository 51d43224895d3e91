theorem kidN_y {π : PL} {c : Int} {m : Nat} (h : π 1 m = c) : kidN π c (m + 1) = kidN π c m + 1 := by show (if π 1 m = c then _ else _) = _; rw [if_pos h]
theorem kidN_n {π : PL} {c : Int} {m : Nat} (h : π 1 m ≠ c) : kidN π c (m + 1) = kidN π c m := by show (if π 1 m = c then _ else _) = _; rw [if_neg h]
theorem kidN_mono {π : PL} {c : Int} {m : Nat} : ∀ {d : Nat}, kidN π c m ≤ kidN π c (m + d) := by
  intro d
  induction d with
  | zero => exact Int.le_refl _
  | succ d ih =>
    by_cases h : π 1 (m + d : Nat) = c
    · rw [← Nat.add_assoc, kidN_y h]; omega
    · rw [← Nat.add_assoc, kidN_n h]; exact ih
theorem kidN_lt {π : PL} {c : Int} {m : Nat} (h : π 1 m = c) (hm : (m : Int) < π 0 0) : kidN π c m + 1 ≤ kids π c := by
  have := kidN_mono (π := π) (c := c) (m := m + 1) (d := (π 0 0).toNat - (m + 1))
  rw [show m + 1 + ((π 0 0).toNat - (m + 1)) = (π 0 0).toNat by omega, kidN_y h] at this
  exact this
theorem kids_rng {π : PL} (ht : treeOK π) (c : Int) : 0 ≤ kids π c ∧ kids π c ≤ 12 := by
  have := kidN_pos (π := π) (c := c) (π 0 0).toNat
  have := ht.2.1
  unfold kids
  omega
theorem kid_at {h : HP} {i : Int} {π : PL} (pc : PlanC h i π) {c : Int} {m : Nat} (hm : (m : Int) < π 0 0) (hc : π 1 m = c) : h 39 i (c * 12 + kidN π c m) = m := by
  have := (pc.2.1 m (by omega) hm).2
  rw [hc, Int.toNat_natCast] at this
  exact this
theorem LineD.slot {h h2 : HP} {L s : Int} {π : PL} {σ τ : ST} (q : LineD h L π σ) (f : FrCu L h h2) (o : Oth L s h h2) (c : CurveC h2 L s τ) (e : ∀ k, k < 9 → τ k = σ k) (eo : ∀ k t, t ≠ s → 9 ≤ k → τ k t = σ k t) : LineD h2 L π τ := by
  obtain ⟨a1, a2, a3, a4, a5⟩ := q
  have g : ∀ k, ¬ cuK k → h2 k L = h k L := fun k hk => f k L (fun z => hk z.2)
  unfold LineD QueC
  rw [g 6 (by unfold cuK; omega), g 24 (by unfold cuK; omega), g 25 (by unfold cuK; omega), g 26 (by unfold cuK; omega), g 27 (by unfold cuK; omega), g 28 (by unfold cuK; omega), g 30 (by unfold cuK; omega), g 31 (by unfold cuK; omega), g 32 (by unfold cuK; omega)]
  rw [e 0 (by omega), e 1 (by omega), e 2 (by omega), e 3 (by omega), e 4 (by omega), e 5 (by omega), e 7 (by omega), e 8 (by omega)]
  refine ⟨a1, a2, a3, a4, fun t t0 t1 => ?_⟩
  by_cases z : t = s
  · subst z; exact c
  · refine (a5 t t0 t1).move (o t z) ?_ ?_ ?_ (eo 12 t z (by omega)) (eo 13 t z (by omega)) ?_
    · rw [eo 9 t z (by omega)]
    · rw [eo 10 t z (by omega)]
    · rw [eo 11 t z (by omega)]
    · rw [cur_eq (e 1 (by omega)) (e 2 (by omega))]; exact Int.le_refl _
theorem LineD.lay {h h2 : HP} {L s x y : Int} {π : PL} {σ : ST} (q : LineD h L π σ) (f : FrCu L h h2) (o : Oth L s h h2) (c : CurveC h2 L s (layA σ s x y)) : LineD h2 L π (layA σ s x y) :=
  q.slot f o c (fun k hk => layA_k (by omega) (by omega)) (fun k t z _ => layA_o z)
theorem LineD.vir {h h1 h2 : HP} {L c v w : Int} {π : PL} {σ : ST} (ht : treeOK π) (q : LineD h L π σ) (c0 : 0 ≤ c) (c1 : c < π 0 0) (e1 : h1 = up h 26 L c v) (hw : w = max (σ 4 (π 1 c) 0) v) (e2 : h2 = up h1 27 L (π 1 c) w) : LineD h2 L π (virA π σ c v) := by
  subst e1; subst e2; subst hw
  obtain ⟨a1, a2, a3, a4, a5⟩ := q
  have g : ∀ k, k ≠ 26 → k ≠ 27 → (up (up h 26 L c v) 27 L (π 1 c) (max (σ 4 (π 1 c) 0) v)) k = h k := fun k k1 k2 => by rw [up_k k2, up_k k1]
  unfold LineD QueC
  rw [g 6 (by decide) (by decide), g 24 (by decide) (by decide), g 25 (by decide) (by decide), g 28 (by decide) (by decide), g 30 (by decide) (by decide), g 31 (by decide) (by decide), g 32 (by decide) (by decide)]
  rw [virA_k (k := 0) (by decide) (by decide), virA_k (k := 1) (by decide) (by decide), virA_k (k := 2) (by decide) (by decide), virA_k (k := 5) (by decide) (by decide), virA_k (k := 7) (by decide) (by decide), virA_k (k := 8) (by decide) (by decide)]
  refine ⟨a1, fun b b0 b1 => ?_, fun b hb => ?_, a4, fun t t0 t1 => ?_⟩
  · obtain ⟨d1, d2, d3, d4, d5⟩ := a2 b b0 b1
    refine ⟨d1, d2, ?_, d4, d5⟩
    rw [up_k (by decide)]
    by_cases z : b = c
    · subst z; rw [up_eq, virA_3]
    · rw [up_j z, virA_3o z]; exact d3
  · have := a3 b hb
    by_cases z : b = π 1 c
    · subst z; rw [up_eq, virA_4]
    · rw [up_j z, virA_4o z, up_k (by decide)]; exact this
  · refine (a5 t t0 t1).move ⟨⟨?_, ?_, ?_, ?_, ?_⟩, fun i i0 i1 => ⟨?_, ?_⟩⟩ ?_ ?_ ?_ ?_ ?_ ?_
    · rw [g 13 (by decide) (by decide)]
    · rw [g 14 (by decide) (by decide)]
    · rw [g 15 (by decide) (by decide)]
    · rw [g 16 (by decide) (by decide)]
    · rw [g 17 (by decide) (by decide)]
    · rw [g 18 (by decide) (by decide)]
    · rw [g 19 (by decide) (by decide)]
    · rw [virA_k (by decide) (by decide)]
    · rw [virA_k (by decide) (by decide)]
    · rw [virA_k (by decide) (by decide)]
    · rw [virA_k (by decide) (by decide)]
    · rw [virA_k (by decide) (by decide)]
    · rw [cur_eq (virA_k (by decide) (by decide)) (virA_k (by decide) (by decide))]; exact Int.le_refl _
theorem lstV_y {π : PL} {σ : ST} {i b : Int} {m : Nat} (h : π 1 m = i ∧ (m : Int) ≠ b ∧ 0 < hel π σ m) : lstV π σ i b (m + 1) = min (lstV π σ i b m) (σ 3 m 0) ∧ grtV π σ i b (m + 1) = max (grtV π σ i b m) (σ 3 m 0) := by
  constructor
  · show (if _ then _ else _) = _; rw [if_pos h]
  · show (if _ then _ else _) = _; rw [if_pos h]
theorem lstV_n {π : PL} {σ : ST} {i b : Int} {m : Nat} (h : ¬ (π 1 m = i ∧ (m : Int) ≠ b ∧ 0 < hel π σ m)) : lstV π σ i b (m + 1) = lstV π σ i b m ∧ grtV π σ i b (m + 1) = grtV π σ i b m := by
  constructor
  · show (if _ then _ else _) = _; rw [if_neg h]
  · show (if _ then _ else _) = _; rw [if_neg h]
theorem wake_loop {h : HP} {L i b K : Int} {π : PL} {τ : ST} {w : Int → Int} {Ko : Int → Int → Prop} (hp : PlanOK π) (pc : PlanC h 1 π) (inv : AInv π K τ) (ld : LineD h L π τ) (hc : HeldC h L π w) (hi : i = 12 ∨ (0 ≤ i ∧ i < π 0 0))
    (hw : ∀ k, 0 ≤ k → k < π 0 0 → π 1 k = i → (0 ≤ w k ∧ w k ≤ 1000) ∧ (0 < w k ↔ (k ≠ b ∧ 0 < hel π τ k))) (k : Ko (lstV π τ i b (π 0 0).toNat) (grtV π τ i b (π 0 0).toNat)) :
    ∀ (d m : Nat), (π 0 0).toNat - m = d → m ≤ (π 0 0).toNat → wX6_wake_19 L b i h Ko ((kids π i - kidN π i m).toNat + 1) (lstV π τ i b m) (grtV π τ i b m) (kidN π i m) := by
  have n12 := hp.1.2.1
  have kr := kids_rng hp.1 i
  have e38 : h 38 1 i = kids π i := pc.2.2.1 i (by omega)
  intro d
  induction d with
  | zero =>
    intro m hd hm
    have e : m = (π 0 0).toNat := by omega
    subst e
    have e2 : kidN π i (π 0 0).toNat = kids π i := rfl
    rw [e2, show (kids π i - kids π i).toNat = 0 by omega, wX6_wake_19, e38]
    exact ⟨by omega, by omega, by omega, fun _ => k, fun c => absurd (Int.le_refl _) c⟩
  | succ d ih =>
    intro m hd hm
    have hf := ih (m + 1) (by omega) (by omega)
    have m1 : (m : Int) < π 0 0 := by omega
    have kp0 := (kidN_pos (π := π) (c := i) m).1
    have kp1 := (kidN_pos (π := π) (c := i) m).2.1
    by_cases q : π 1 m = i
    · have hk := kid_at pc m1 q
      have kl := kidN_lt q m1
      obtain ⟨w0, w1⟩ := hw m (by omega) m1 q
      have hh : h 29 L m = w m := hc m (Or.inl ⟨by omega, m1⟩)
      have hv : h 26 L m = τ 3 m 0 := (ld.2.1 m (by omega) m1).2.2.1
      have vr := (inv.2.2.2.2.2.2.1 m (by omega) m1).2.1
      have cr := inv.2.2.1
      have tr := inv.1
      have g := grtV_rng inv i b m (by omega)
      rw [kidN_y q, show (kids π i - kidN π i m).toNat = (kids π i - (kidN π i m + 1)).toNat + 1 by omega] at *
      have lr : 0 ≤ lstV π τ i b m ∧ lstV π τ i b m ≤ 1000000000 := by
        by_cases y : grtV π τ i b m = -1
        · have := g.2.1 y; omega
        · have := g.2.2 y; omega
      rw [wX6_wake_19, e38, hk, hh, hv]
      refine ⟨by omega, by omega, by omega, fun c => absurd c (by omega), fun _ => ⟨by omega, by omega, ⟨by omega, fun _ => ⟨by omega, by omega, by omega, fun _ => ⟨by omega, by omega, by omega, fun _ => by omega⟩, fun _ => ⟨by omega, by omega, by omega, by omega, fun _ => by omega⟩⟩⟩, fun t21 t22 ht => ?_⟩⟩
      have et : t21 = lstV π τ i b (m + 1) ∧ t22 = grtV π τ i b (m + 1) := by
        by_cases y : w m ≤ 0
        · have z : ¬ (π 1 m = i ∧ (m : Int) ≠ b ∧ 0 < hel π τ m) := fun z => by have := w1.mpr z.2; omega
          obtain ⟨z1, z2⟩ := lstV_n z
          rw [z1, z2]; exact ht.1 y
        · have z : π 1 m = i ∧ (m : Int) ≠ b ∧ 0 < hel π τ m := ⟨q, w1.mp (by omega)⟩
          obtain ⟨z1, z2⟩ := lstV_y z
          rw [z1, z2]
          have h2 := ht.2 y
          by_cases y1 : lstV π τ i b m ≤ τ 3 m 0
          · have h3 := h2.1 y1
            by_cases y2 : τ 3 m 0 ≤ grtV π τ i b m
            · have := h3.1 y2; omega
            · have := h3.2 y2; omega
          · have h3 := h2.2 y1
            by_cases y2 : τ 3 m 0 ≤ grtV π τ i b m
            · have := h3.1 y2; omega
            · have := h3.2 y2; omega
      rw [et.1, et.2]
      exact hf
    · obtain ⟨z1, z2⟩ := lstV_n (σ := τ) (b := b) (fun z : π 1 m = i ∧ (m : Int) ≠ b ∧ 0 < hel π τ m => q z.1)
      rw [z1, z2, kidN_n q] at hf
      exact hf
theorem wake_c {h : HP} {L c K : Int} {π : PL} {τ : ST} {w : Int → Int} {P : HP → Prop} (hp : PlanOK π) (pc : PlanC h 1 π) (inv : AInv π K τ) (ld : LineD h L π τ) (hc : HeldC h L π w) (c0 : 0 ≤ c) (c1 : c < π 0 0)
    (hw : ∀ k, 0 ≤ k → k < π 0 0 → π 1 k = π 1 c → (0 ≤ w k ∧ w k ≤ 1000) ∧ (0 < w k ↔ (k ≠ c ∧ 0 < hel π τ k)))
    (k : ∀ h', FrL L h h' → LineD h' L π (wakeA π τ c) → h' 29 L = h 29 L → P h') : wX6_wake L c h P := by
  have n12 := hp.1.2.1
  have pp := par_ok hp.1 c0 c1
  have e37 : h 37 1 c = π 1 c := (pc.2.1 c c0 c1).1
  have s := startA_rng hp.1 inv c0 c1
  have g := grtV_rng inv (π 1 c) c (π 0 0).toNat (by omega)
  have hxB : xB = 18000000 := rfl
  have cr := inv.2.2.1
  have tr := inv.1
  have vr := (inv.2.2.2.2.2.2.1 c c0 c1).2.1
  have pr := inv.2.2.2.2.2.2.2.1 (π 1 c) (by omega)
  have h26 : h 26 L c = τ 3 c 0 := (ld.2.1 c c0 c1).2.2.1
  have h27 : h 27 L (π 1 c) = τ 4 (π 1 c) 0 := ld.2.2.1 (π 1 c) (by omega)
  unfold wX6_wake
  rw [e37]
  refine ⟨by omega, _, wake_loop hp pc inv ld hc pp hw ?_ _ 0 rfl (by omega)⟩
  refine ⟨⟨by omega, fun y => by have := g.2.2 y; omega, fun _ => by omega⟩, fun t45 h45 => ⟨by omega, ?_⟩⟩
  have e45 : max (τ 3 c 0) t45 = startA π τ c := by
    unfold startA
    by_cases y : grtV π τ (π 1 c) c (π 0 0).toNat = -1
    · rw [if_pos y, h45.2 y, h27]
    · rw [if_neg y, h45.1 y]
  have t45r : -2147483648 ≤ t45 ∧ t45 < 2147483648 := by
    by_cases y : grtV π τ (π 1 c) c (π 0 0).toNat = -1
    · rw [h45.2 y, h27]; omega
    · rw [h45.1 y]; have := g.2.2 y; omega
  rw [h26]
  refine ⟨⟨by omega, t45r, fun _ => by omega⟩, fun t51 h51 => ⟨by omega, fun h53 e53 => ?_⟩⟩
  have e51 : t51 = startA π τ c := by
    rw [← e45]
    by_cases y : τ 3 c 0 ≤ t45
    · rw [h51.1 y]; omega
    · rw [h51.2 y]; omega
  have x27 : h53 27 L (π 1 c) = τ 4 (π 1 c) 0 := by rw [e53, up_k (by decide)]; exact h27
  rw [x27]
  refine ⟨by omega, ⟨by omega, by omega, fun _ => by omega⟩, fun t59 h59 => ⟨by omega, fun h61 e61 => ?_⟩⟩
  have e59 : t59 = max (τ 4 (π 1 c) 0) t51 := by
    by_cases y : t51 ≤ τ 4 (π 1 c) 0
    · rw [h59.1 y]; omega
    · rw [h59.2 y]; omega
  have l1 : LineD h61 L π (virA π τ c t51) := ld.vir hp.1 c0 c1 e53 e59 e61
  have f1 : FrL L h h61 := by rw [e61, e53]; exact (FrL.up (by unfold lnK; omega)).tr (FrL.up (by unfold lnK; omega))
  have b1 : h61 29 L = h 29 L := by rw [e61, e53, up_k (by decide), up_k (by decide)]
  rw [e51] at l1 ⊢
  have v0 : virA π τ c (startA π τ c) 0 = τ 0 := virA_k (by decide) (by decide)
  have v1 : virA π τ c (startA π τ c) 1 = τ 1 := virA_k (by decide) (by decide)
  have v2 : virA π τ c (startA π τ c) 2 = τ 2 := virA_k (by decide) (by decide)
  have i1 := virA_inv inv (c := c) (v := startA π τ c) s.1 s.2
  have cr1 := i1.cur_rng (s := 3 * c + 1) (by omega) (by omega)
  rw [cur_1, v1] at cr1
  have y1 : h61 24 L c = τ 1 c 0 := by rw [(l1.2.1 c c0 c1).1, v1]
  rw [y1]
  refine ⟨by omega, ?_⟩
  rw [show c * 3 + 1 = 3 * c + 1 by omega]
  refine lay_c (σ := virA π τ c (startA π τ c)) (by omega) (l1.2.2.2.2 (3 * c + 1) (by omega) (by omega)) (i1.2.2.2.2.2.2.2.2.2 _ (by omega) (by omega)) (by omega) (by rw [cur_1, v1]) (by omega) (fun h64 q1 q2 q3 => ?_)
  have l2 := l1.lay q1 q2 q3
  have i2 := layA_inv i1 (s := 3 * c + 1) (x := startA π τ c) (y := τ 1 c 0) (by omega) (by omega) s.2.1 (by rw [cur_1, v1]) (fun _ => by rw [show (3 * c + 1) / 3 = c by omega, virA_3]; exact Int.le_refl _) (fun q => by omega)
  have g2 : ∀ k, k ≠ 12 → k ≠ 13 → layA (virA π τ c (startA π τ c)) (3 * c + 1) (startA π τ c) (τ 1 c 0) k = virA π τ c (startA π τ c) k := fun k k1 k2 => layA_k k1 k2
  have y2 : h64 24 L c = τ 1 c 0 := by rw [(l2.2.1 c c0 c1).1, g2 1 (by decide) (by decide), v1]
  have z2 : h64 6 L 1 = τ 0 0 0 := by rw [l2.1.1, g2 0 (by decide) (by decide), v0]
  rw [y2, z2]
  refine ⟨by omega, ?_⟩
  rw [show c * 3 + 2 = 3 * c + 2 by omega]
  refine lay_c (by omega) (l2.2.2.2.2 (3 * c + 2) (by omega) (by omega)) (i2.2.2.2.2.2.2.2.2.2 _ (by omega) (by omega)) (by omega) (by rw [cur_2, g2 1 (by decide) (by decide), v1]) (by omega) (fun h66 r1 r2 r3 => ?_)
  have l3 := l2.lay r1 r2 r3
  have i3 := layA_inv i2 (s := 3 * c + 2) (x := τ 0 0 0) (y := τ 1 c 0) (by omega) (by omega) tr.1 (by rw [cur_2, g2 1 (by decide) (by decide), v1]) (fun q => by omega) (fun _ => by rw [g2 0 (by decide) (by decide), v0]; exact Int.le_refl _)
  have y3 : h66 25 L c = τ 2 c 0 := by rw [(l3.2.1 c c0 c1).2.1, layA_k (by decide) (by decide), g2 2 (by decide) (by decide), v2]
  have z3 : h66 6 L 1 = τ 0 0 0 := by rw [l3.1.1, layA_k (by decide) (by decide), g2 0 (by decide) (by decide), v0]
  rw [y3, z3]
  refine ⟨by omega, ?_⟩
  rw [show c * 3 + 0 = 3 * c by omega]
  have cr3 := i3.cur_rng (s := 3 * c) (by omega) (by omega)
  have cc3 : cur (layA (layA (virA π τ c (startA π τ c)) (3 * c + 1) (startA π τ c) (τ 1 c 0)) (3 * c + 2) (τ 0 0 0) (τ 1 c 0)) (3 * c) = τ 2 c 0 := by rw [cur_0, layA_k (by decide) (by decide), g2 2 (by decide) (by decide), v2]
  rw [cc3] at cr3
  refine lay_c (by omega) (l3.2.2.2.2 (3 * c) (by omega) (by omega)) (i3.2.2.2.2.2.2.2.2.2 _ (by omega) (by omega)) (by omega) cc3 (by omega) (fun h68 s1 s2 s3 => ?_)
  have l4 := l3.lay s1 s2 s3
  refine k h68 (((f1.tr q1.frL).tr r1.frL).tr s1.frL) l4 ?_
  have n29 : ¬ cuK 29 := by unfold cuK; omega
  rw [s1 29 L (fun z => n29 z.2), r1 29 L (fun z => n29 z.2), q1 29 L (fun z => n29 z.2)]
  exact b1
theorem LineD.push {h : HP} {L l z : Int} {π : PL} {σ : ST} (q : LineD h L π σ) (l0 : 0 ≤ l) (l1 : l < π 0 0) (h0 : 0 ≤ σ 6 l 0) (h1 : σ 6 l 0 < 20) : LineD (up h 30 L (l * 20 + (h 31 L l + σ 6 l 0) % 20) z) L π (pushA σ l z) := by
  obtain ⟨a1, a2, a3, a4, a5⟩ := q
  have g : ∀ k, k ≠ 30 → (up h 30 L (l * 20 + (h 31 L l + σ 6 l 0) % 20) z) k = h k := fun k k1 => up_k k1
  have hl := (a2 l l0 l1).2.2.2.2
  unfold LineD QueC
  rw [g 6 (by decide), g 24 (by decide), g 25 (by decide), g 26 (by decide), g 27 (by decide), g 28 (by decide), g 31 (by decide), g 32 (by decide)]
  rw [pushA_k (k := 0) (by decide) (by decide), pushA_k (k := 1) (by decide) (by decide), pushA_k (k := 2) (by decide) (by decide), pushA_k (k := 3) (by decide) (by decide), pushA_k (k := 4) (by decide) (by decide), pushA_k (k := 5) (by decide) (by decide), pushA_k (k := 8) (by decide) (by decide)]
  refine ⟨a1, fun b b0 b1 => ?_, a3, a4, fun t t0 t1 => ?_⟩
  · obtain ⟨d1, d2, d3, d4, d5, d6⟩ := a2 b b0 b1
    refine ⟨d1, d2, d3, d4, d5, fun i i0 i1 => ?_⟩
    rw [up_ji]
    by_cases y : b = l
    · subst y
      rw [pushA_7]
      by_cases y2 : i = σ 6 b 0
      · rw [if_pos y2, if_pos (by rw [y2])]
      · rw [if_neg y2, if_neg (by omega)]; exact d6 i i0 i1
    · rw [pushA_7o y, if_neg (by omega)]; exact d6 i i0 i1
  · refine (a5 t t0 t1).move ⟨⟨?_, ?_, ?_, ?_, ?_⟩, fun i i0 i1 => ⟨?_, ?_⟩⟩ ?_ ?_ ?_ ?_ ?_ ?_
    · rw [g 13 (by decide)]
    · rw [g 14 (by decide)]
    · rw [g 15 (by decide)]
    · rw [g 16 (by decide)]
    · rw [g 17 (by decide)]
    · rw [g 18 (by decide)]
    · rw [g 19 (by decide)]
    · rw [pushA_k (by decide) (by decide)]
    · rw [pushA_k (by decide) (by decide)]
    · rw [pushA_k (by decide) (by decide)]
    · rw [pushA_k (by decide) (by decide)]
    · rw [pushA_k (by decide) (by decide)]
    · rw [cur_eq (pushA_k (by decide) (by decide)) (pushA_k (by decide) (by decide))]; exact Int.le_refl _
theorem LineD.frH {h : HP} {L j v : Int} {π : PL} {σ : ST} (q : LineD h L π σ) : LineD (up h 29 L j v) L π σ := by
  obtain ⟨a1, a2, a3, a4, a5⟩ := q
  have g : ∀ k, k ≠ 29 → (up h 29 L j v) k = h k := fun k k1 => up_k k1
  unfold LineD QueC
  rw [g 6 (by decide), g 24 (by decide), g 25 (by decide), g 26 (by decide), g 27 (by decide), g 28 (by decide), g 30 (by decide), g 31 (by decide), g 32 (by decide)]
  refine ⟨a1, a2, a3, a4, fun t t0 t1 => ?_⟩
  refine (a5 t t0 t1).move ⟨⟨?_, ?_, ?_, ?_, ?_⟩, fun i i0 i1 => ⟨?_, ?_⟩⟩ rfl rfl rfl rfl rfl (Int.le_refl _)
  · rw [g 13 (by decide)]
  · rw [g 14 (by decide)]
  · rw [g 15 (by decide)]
  · rw [g 16 (by decide)]
  · rw [g 17 (by decide)]
  · rw [g 18 (by decide)]
  · rw [g 19 (by decide)]
theorem AInv.qln {π : PL} {K : Int} {σ : ST} (h : AInv π K σ) : ∀ k, 0 ≤ k → k < π 0 0 → 0 ≤ σ 6 k 0 ∧ σ 6 k 0 ≤ 20 := fun k k0 k1 => (h.2.2.2.2.2.2.1 k k0 k1).2.2.2.1
theorem AInv.hel_rng {π : PL} {K : Int} {σ : ST} (ht : treeOK π) (h : AInv π K σ) (b : Int) : 0 ≤ hel π σ b ∧ hel π σ b ≤ 240 :=
  ⟨hel_nonneg (fun k k0 k1 => (h.qln k k0 k1).1), hel_le ht (fun k k0 k1 => h.qln k k0 k1)⟩
/-- how many wait while the class climbs from l and stands at a -/
noncomputable def wCl (π : PL) (σ : ST) (l a b : Int) : Int := hel π σ b + @ite Int (inCh π l b ∧ ¬ inCh π a b) (Classical.propDecidable _) 1 0
theorem wCl_y {π : PL} {σ : ST} {l a b : Int} (h : inCh π l b ∧ ¬ inCh π a b) : wCl π σ l a b = hel π σ b + 1 := by unfold wCl; rw [if_pos h]
theorem wCl_n {π : PL} {σ : ST} {l a b : Int} (h : ¬ (inCh π l b ∧ ¬ inCh π a b)) : wCl π σ l a b = hel π σ b := by unfold wCl; rw [if_neg h]; omega
theorem accept_climb {L l z K : Int} {π : PL} {σ : ST} {Ko : HP → Prop} (hp : PlanOK π) (inv0 : AInv π K σ) (l0 : 0 ≤ l) (l1 : l < π 0 0) {h0 : HP} (pc0 : PlanC h0 1 π)
    (hK : ∀ h τ, FrL L h0 h → LineD h L π τ → HeldC h L π (wCl π σ l 12) → τ = climbW π σ 13 (pushA σ l z) l → Ko h) :
    ∀ (d : Nat) (a st : Int) (h : HP) (τ : ST), 12 - st = d → 0 ≤ st → (a = 12 ∨ (0 ≤ a ∧ a < π 0 0 ∧ a + st ≤ 11)) → inCh π l a → FrL L h0 h → LineD h L π τ → HeldC h L π (wCl π σ l a) → AInv π K τ → τ 6 = (pushA σ l z) 6 → climbW π σ (d + 1) τ a = climbW π σ 13 (pushA σ l z) l →
      wX6_accept_54 L l z Ko (d + 1) a st h := by
  have n12 := hp.1.2.1
  intro d
  induction d with
  | zero =>
    intro a st h τ hd hst ha hla fr ld hc inv e6 hcl
    have ea : a = 12 := by omega
    subst ea
    have e : climbW π σ (0 + 1) τ 12 = τ := by unfold climbW; rw [if_pos rfl]
    rw [wX6_accept_54]
    exact ⟨by omega, fun _ => hK h τ fr ld hc (by rw [← e]; exact hcl), fun c => absurd (by omega) c⟩
  | succ d ih =>
    intro a st h τ hd hst ha hla fr ld hc inv e6 hcl
    rw [wX6_accept_54]
    refine ⟨by omega, fun c => absurd c (by omega), fun _ => ⟨by omega, fun c => ?_, fun c => ?_⟩⟩
    · subst c
      have e : climbW π σ (d + 1 + 1) τ 12 = τ := by unfold climbW; rw [if_pos rfl]
      exact hK h τ fr ld hc (by rw [← e]; exact hcl)
    · have a0 : 0 ≤ a := by omega
      have a1 : a < π 0 0 := by omega
      have ha29 : h 29 L a = hel π σ a := by
        rw [hc a (Or.inl ⟨a0, a1⟩), wCl_n (fun q => q.2 (inCh_rf _ _))]
      have hr := inv0.hel_rng hp.1 a
      have ecl : climbW π σ (d + 1 + 1) τ a = climbW π σ (d + 1) (if hel π σ a = 0 then wakeA π τ a else τ) (π 1 a) := by
        show (if a = 12 then _ else _) = _
        rw [if_neg c]
      rw [ecl] at hcl
      have pc : PlanC h 1 π := pc0.fr fr
      have pa : π 1 a = 12 ∨ (0 ≤ π 1 a ∧ π 1 a < π 0 0 ∧ π 1 a + (st + 1) ≤ 11) := by
        rcases hp.1.2.2 a a0 a1 with q | q
        · exact Or.inl q
        · exact Or.inr ⟨q.1, by omega, by omega⟩
      have lpa : inCh π l (π 1 a) := by
        obtain ⟨j, hj⟩ := hla
        exact inCh_tr j hj ((inCh_iff c).mpr (Or.inr (inCh_rf _ _)))
      -- behind the waking: one more waits
      have fin : ∀ h' τ', FrL L h0 h' → LineD h' L π τ' → h' 29 L = h 29 L → AInv π K τ' → τ' 6 = (pushA σ l z) 6 → climbW π σ (d + 1) τ' (π 1 a) = climbW π σ 13 (pushA σ l z) l →
          wX6_accept_81 L l z a st (fun y3 y4 hy => wX6_accept_54 L l z Ko (d + 1) y3 y4 hy) h' := by
        intro h' τ' fr' ld' e29 inv' e6' hcl'
        have pc' : PlanC h' 1 π := pc0.fr fr'
        unfold wX6_accept_81
        refine ⟨by omega, by omega, fun h17 e17 => ⟨by omega, ?_⟩⟩
        have f17 : FrL L h0 h17 := by rw [e17]; exact fr'.tr (FrL.up (by unfold lnK; omega))
        have e37 : h17 37 1 a = π 1 a := by rw [e17, up_k (by decide)]; exact (pc'.2.1 a a0 a1).1
        rw [e37]
        refine ih (π 1 a) (st + 1) h17 τ' (by omega) (by omega) pa lpa f17 (by rw [e17]; exact ld'.frH) (fun b hb => ?_) inv' e6' hcl'
        rw [e17, up_ji, e29]
        by_cases q : b = a
        · subst q
          rw [if_pos rfl, ha29, wCl_y ⟨hla, inCh_not_up hp.1 a0 a1⟩]
        · rw [if_neg q, hc b hb]
          by_cases y : inCh π l b ∧ ¬ inCh π a b
          · rw [wCl_y y, wCl_y ⟨y.1, fun u => y.2 ((inCh_iff c).mpr (Or.inr u))⟩]
          · rw [wCl_n y, wCl_n (fun u => y ⟨u.1, fun v => by
              rcases (inCh_iff c).mp v with w | w
              · exact q w.symm
              · exact u.2 w⟩)]
      refine ⟨by omega, by omega, fun c2 => ?_, fun c2 => ?_⟩
      · rw [if_neg (by omega)] at hcl
        exact fin h τ fr ld rfl inv e6 hcl
      · rw [if_pos (by omega)] at hcl
        have ep : ∀ b, hel π τ b = hel π (pushA σ l z) b := fun b => hel_same e6
        refine wake_c hp pc inv ld hc a0 a1 (fun k k0 k1 hk => ?_) (fun h' f' ld' e29 => fin h' _ (fr.tr f') ld' e29 (wakeA_inv hp.1 inv a0 a1) (by rw [wakeA_k (by decide) (by decide) (by decide) (by decide)]; exact e6) hcl)
        have hkr := inv0.hel_rng hp.1 k
        by_cases q : k = a
        · subst q
          rw [wCl_n (fun q => q.2 (inCh_rf _ _))]
          exact ⟨by omega, fun q => by omega, fun q => absurd rfl q.1⟩
        · have nk : ¬ inCh π l k := inCh_mate hp.1 l0 l1 a0 a1 k0 k1 hk q hla
          rw [wCl_n (fun u => nk u.1), ep k]
          have := (hel_one (π := π) (σ := σ) (τ := pushA σ l z) (b := k) (l := l) (δ := 1) l0 l1 (fun b _ _ hb => by rw [pushA_6o hb]) pushA_6).2 nk
          rw [this]
          exact ⟨by omega, fun u => ⟨q, u⟩, fun u => u.2⟩
theorem accept_c {h : HP} {L l z K : Int} {π : PL} {σ : ST} {P : HP → Prop} (hp : PlanOK π) (pc : PlanC h 1 π) (inv : AInv π K σ) (lc : LineC h L π σ) (l0 : 0 ≤ l) (l1 : l < π 0 0) (hk : kids π l = 0) (hz : 1 ≤ z ∧ z ≤ 64)
    (k : ∀ h', FrL L h h' → LineC h' L π (acceptA π σ l z) → P h') : wX6_accept L l z h P := by
  have n12 := hp.1.2.1
  obtain ⟨ld, hc⟩ := lc
  have h29 : h 29 L l = σ 6 l 0 := by rw [hc l (Or.inl ⟨l0, l1⟩)]; exact hel_leaf hp.1 l0 l1 hk
  have q6 := inv.qln l l0 l1
  have hd := (ld.2.1 l l0 l1).2.2.2.2.1
  unfold wX6_accept
  rw [h29]
  refine ⟨by omega, by omega, fun c => ⟨by omega, by omega, by omega, by omega, fun h7 e7 => ?_⟩, fun c => ⟨by omega, by omega, fun h25 e25 => ?_⟩⟩
  · have i1 := pushA_inv inv hk c hz
    have f7 : FrL L h h7 := by rw [e7]; exact FrL.up (by unfold lnK; omega)
    have ld7 : LineD h7 L π (pushA σ l z) := by rw [e7]; exact ld.push l0 l1 (by omega) (by omega)
    have eA : acceptA π σ l z = climbW π σ 13 (pushA σ l z) l := by unfold acceptA; rw [if_neg (by omega)]
    refine ⟨_, accept_climb (z := z) (h0 := h7) hp inv l0 l1 (pc.fr f7) (fun h' τ fr ld' hc' eτ => ?_) 12 l 0 h7 (pushA σ l z) rfl (Int.le_refl _) (Or.inr ⟨l0, l1, by omega⟩) (inCh_rf _ _) (FrL.rf _ _) ld7 (fun b hb => ?_) i1 rfl rfl⟩
    · intro h23 e23
      have f23 : FrL L h h23 := by rw [e23]; exact (f7.tr fr).tr (FrL.up (by unfold lnK; omega))
      refine k h23 f23 ⟨?_, fun b hb => ?_⟩
      · rw [e23, eA, ← eτ]; exact ld'.frH
      · have h6 : hel π (acceptA π σ l z) b = hel π (pushA σ l z) b := hel_same (by rw [eA, climbW_k (by decide) (by decide) (by decide) (by decide)])
        have ho := hel_one (π := π) (σ := σ) (τ := pushA σ l z) (b := b) (l := l) (δ := 1) l0 l1 (fun b _ _ hb => by rw [pushA_6o hb]) pushA_6
        rw [h6, e23, up_ji]
        by_cases q : b = 12
        · subst q
          rw [if_pos rfl, hc' 12 (Or.inr rfl), wCl_n (fun u => u.2 (inCh_rf _ _)), ho.1 (inCh_all hp.1 l0 l1)]
        · rw [if_neg q, hc' b hb]
          by_cases y : inCh π l b
          · rw [wCl_y ⟨y, fun u => q (inCh_12.mp u)⟩, ho.1 y]
          · rw [wCl_n (fun u => y u.1), ho.2 y]
    · rw [e7, up_k (by decide), hc b hb, wCl_n (fun u => u.2 u.1)]
  · have eA : acceptA π σ l z = up σ 5 l 0 (σ 5 l 0 + 1) := by unfold acceptA; rw [if_pos (by omega)]
    have f25 : FrL L h h25 := by rw [e25]; exact FrL.up (by unfold lnK; omega)
    have e28 := (ld.2.1 l l0 l1).2.2.2.1
    refine k h25 f25 ⟨?_, fun b hb => ?_⟩
    · rw [eA, e25]
      obtain ⟨a1, a2, a3, a4, a5⟩ := ld
      have g : ∀ k, k ≠ 28 → (up h 28 L l (h 28 L l + 1)) k = h k := fun k k1 => up_k k1
      have g' : ∀ k, k ≠ 5 → (up σ 5 l 0 (σ 5 l 0 + 1)) k = σ k := fun k k1 => up_k k1
      unfold LineD QueC
      rw [g 6 (by decide), g 24 (by decide), g 25 (by decide), g 26 (by decide), g 27 (by decide), g 30 (by decide), g 31 (by decide), g 32 (by decide)]
      rw [g' 0 (by decide), g' 1 (by decide), g' 2 (by decide), g' 3 (by decide), g' 4 (by decide), g' 7 (by decide), g' 8 (by decide)]
      refine ⟨a1, fun b b0 b1 => ?_, a3, a4, fun t t0 t1 => ?_⟩
      · obtain ⟨d1, d2, d3, d4, d5⟩ := a2 b b0 b1
        refine ⟨d1, d2, d3, ?_, d5⟩
        by_cases y : b = l
        · subst y; rw [up_eq, up_eq, d4]
        · rw [up_j y, up_i y]; exact d4
      · refine (a5 t t0 t1).move ⟨⟨?_, ?_, ?_, ?_, ?_⟩, fun i i0 i1 => ⟨?_, ?_⟩⟩ ?_ ?_ ?_ ?_ ?_ ?_
        · rw [g 13 (by decide)]
        · rw [g 14 (by decide)]
        · rw [g 15 (by decide)]
        · rw [g 16 (by decide)]
        · rw [g 17 (by decide)]
        · rw [g 18 (by decide)]
        · rw [g 19 (by decide)]
        · rw [g' 9 (by decide)]
        · rw [g' 10 (by decide)]
        · rw [g' 11 (by decide)]
        · rw [g' 12 (by decide)]
        · rw [g' 13 (by decide)]
        · rw [cur_eq (g' 1 (by decide)) (g' 2 (by decide))]; exact Int.le_refl _
    · rw [eA, e25, up_k (by decide), hc b hb]
      exact (hel_same (by rw [up_k (by decide)])).symm
