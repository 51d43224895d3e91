/-! the reference: the tree, who is active, waking, a packet comes -/
def rc (a : Int) : Int := if a = 12 then -1 else a
def RX (h : HP) (π : PL) (K : Int) (σ : ST) : Prop := PlanOK π ∧ PlanR h π ∧ AInv π K σ ∧ RowR (h 56 7) π σ
theorem PlanR.congr {h h' : HP} {π : PL} (q : PlanR h π) (e : ∀ k, 49 ≤ k → k ≤ 54 → h' k = h k) : PlanR h' π := by
  unfold PlanR at *
  rw [e 49 (by omega) (by omega), e 50 (by omega) (by omega), e 51 (by omega) (by omega), e 52 (by omega) (by omega), e 53 (by omega) (by omega), e 54 (by omega) (by omega)]
  exact q
theorem PlanR.par {h : HP} {π : PL} (q : PlanR h π) {c : Int} (c0 : 0 ≤ c) (c1 : c < π 0 0) : h 50 7 c = rc (π 1 c) := q.2.1 c c0 c1
theorem rc_eq {π : PL} (ht : treeOK π) {c i : Int} (c0 : 0 ≤ c) (c1 : c < π 0 0) (hi : (0 ≤ i ∧ i < π 0 0) ∨ i = 12) : rc (π 1 c) = rc i ↔ π 1 c = i := by
  have p := par_ok ht c0 c1
  unfold rc
  split <;> split <;> omega
theorem hel_iff {π : PL} {K : Int} {σ : ST} (ht : treeOK π) (inv : AInv π K σ) {c : Int} (c0 : 0 ≤ c) (c1 : c < π 0 0) : 0 < hel π σ c ↔ (0 < σ 6 c 0 ∨ ∃ k : Nat, (k : Int) < π 0 0 ∧ π 1 k = c ∧ 0 < hel π σ k) := by
  constructor
  · intro h
    by_cases z : kids π c = 0
    · rw [hel_leaf ht c0 c1 z] at h; exact Or.inl h
    · exact Or.inr (hel_child ht inv (Or.inl ⟨c0, c1⟩) z h)
  · rintro (h | ⟨k, k1, k2, k3⟩)
    · exact (hel_pos (fun k k0 k1 => (inv.qln k k0 k1).1)).mpr ⟨c, c0, c1, inCh_rf _ _, h⟩
    · have := hel_par inv (k := k) (by have := ht.2.1; omega) k3
      rw [k2] at this
      exact this
theorem isActive_r {h : HP} {π : PL} {K : Int} {σ : ST} (x : RX h π K σ) : ∀ (r : Nat) {c : Int} {P : Int → HP → Prop}, 0 ≤ c → c < π 0 0 → π 0 0 - c ≤ r → (∀ y, (y = 0 ∨ y = 1) → (y = 1 ↔ 0 < hel π σ c) → P y h) → wX12_isActive r 7 c h P := by
  obtain ⟨hp, pr, inv, row⟩ := x
  have n12 := hp.1.2.1
  intro r
  induction r with
  | zero => intro c P c0 c1 h2; omega
  | succ r ih =>
    intro c P c0 c1 hr k
    show wX12_isActive_b (wX12_isActive r) 7 c h P
    have e17 := (row.2.2 c c0 c1).1.2.2.2.2.2
    have q := inv.qln c c0 c1
    have iff := hel_iff hp.1 inv c0 c1
    unfold wX12_isActive_b
    rw [e17]
    refine ⟨by omega, by omega, fun z => ?_, fun z => k 1 (Or.inr rfl) ⟨fun _ => iff.mpr (Or.inl (by omega)), fun _ => rfl⟩⟩
    have loop : ∀ (d : Nat) (m : Nat), (π 0 0).toNat - m = d → m ≤ (π 0 0).toNat → c < m → (∀ j : Nat, j < m → π 1 j = c → ¬ 0 < hel π σ j) → wX12_isActive_22 (wX12_isActive r) 7 c (fun h16 => P 0 h16) (fun h17 => P 1 h17) (d + 1) m h := by
      intro d
      induction d with
      | zero =>
        intro m hd hm hcm hj
        rw [wX12_isActive_22, pr.1.1]
        refine ⟨by omega, by omega, fun _ => k 0 (Or.inl rfl) ⟨fun q => by omega, fun q => ?_⟩, fun z2 => absurd (by omega) z2⟩
        rcases iff.mp q with u | ⟨j, j1, j2, j3⟩
        · omega
        · exact absurd j3 (hj j (by omega) j2)
      | succ d ihd =>
        intro m hd hm hcm hj
        have ep := pr.par (c := m) (by omega) (by omega)
        have pk := par_ok hp.1 (a := m) (by omega) (by omega)
        have rq := rc_eq hp.1 (c := m) (i := c) (by omega) (by omega) (Or.inl ⟨c0, c1⟩)
        have rcc : rc c = c := by unfold rc; rw [if_neg (by omega)]
        rw [rcc] at rq
        have rr : -1 ≤ rc (π 1 m) ∧ rc (π 1 m) < 12 := by unfold rc; split <;> omega
        rw [wX12_isActive_22, pr.1.1, ep]
        refine ⟨by omega, by omega, fun z2 => absurd z2 (by omega), fun _ => ⟨by omega, by omega, by omega, fun z2 => ?_, fun z2 => ?_⟩⟩
        · unfold wX12_isActive_52
          exact ihd (m + 1) (by omega) (by omega) (by omega) (fun j j1 j2 => by
            by_cases u : j = m
            · subst u; exact absurd (rq.mpr j2) z2
            · exact hj j (by omega) j2)
        · have pc := rq.mp z2
          refine ih (c := m) (by omega) (by omega) (by omega) (fun y hy hq => ⟨by omega, fun u => ?_, fun u => ?_⟩)
          · unfold wX12_isActive_52
            exact ihd (m + 1) (by omega) (by omega) (by omega) (fun j j1 j2 => by
              by_cases v : j = m
              · subst v; exact fun w => by have := hq.mpr w; omega
              · exact hj j (by omega) j2)
          · exact k 1 (Or.inr rfl) ⟨fun _ => iff.mpr (Or.inr ⟨m, by omega, pc, hq.mp (by omega)⟩), fun _ => rfl⟩
    have := loop ((π 0 0).toNat - (c.toNat + 1)) (c.toNat + 1) rfl (by omega) (by omega) (fun j j1 j2 => by
      have := hp.1.2.2 j (by omega) (by omega)
      omega)
    rw [show ((c.toNat + 1 : Nat) : Int) = c + 1 by omega] at this
    exact ⟨_, this⟩
theorem active_r {h : HP} {π : PL} {K c : Int} {σ : ST} {P : Int → HP → Prop} (x : RX h π K σ) (c0 : 0 ≤ c) (c1 : c < π 0 0) (k : ∀ y, (y = 0 ∨ y = 1) → (y = 1 ↔ 0 < hel π σ c) → P y h) : wX12_isActive 13 7 c h P :=
  isActive_r x 13 c0 c1 (by have := x.1.1.2.1; omega) k
theorem isLeaf_r {h : HP} {π : PL} {c : Int} {P : Int → HP → Prop} (ht : treeOK π) (pr : PlanR h π) (c0 : 0 ≤ c) (c1 : c < π 0 0) (k : ∀ y, (y = 0 ∨ y = 1) → (y = 1 ↔ kids π c = 0) → P y h) : wX12_isLeaf 7 c h P := by
  have n12 := ht.2.1
  have kp := (kidN_pos (π := π) (c := c) (π 0 0).toNat).2.2
  unfold wX12_isLeaf
  have loop : ∀ (d : Nat) (m : Nat), (π 0 0).toNat - m = d → m ≤ (π 0 0).toNat → c < m → (∀ j : Nat, j < m → π 1 j ≠ c) → wX12_isLeaf_4 7 c h (P 1 h) (P 0 h) (d + 1) m := by
    intro d
    induction d with
    | zero =>
      intro m hd hm hcm hj
      rw [wX12_isLeaf_4, pr.1.1]
      refine ⟨by omega, by omega, fun _ => k 1 (Or.inr rfl) ⟨fun _ => ?_, fun _ => rfl⟩, fun z2 => absurd (by omega) z2⟩
      by_cases z : 0 < kidN π c (π 0 0).toNat
      · obtain ⟨j, j1, j2⟩ := kp.mp z
        exact absurd j2 (hj j (by omega))
      · have := (kidN_pos (π := π) (c := c) (π 0 0).toNat).1
        unfold kids; omega
    | succ d ihd =>
      intro m hd hm hcm hj
      have ep := pr.par (c := m) (by omega) (by omega)
      have pk := par_ok ht (a := m) (by omega) (by omega)
      have rq := rc_eq ht (c := m) (i := c) (by omega) (by omega) (Or.inl ⟨c0, c1⟩)
      have rcc : rc c = c := by unfold rc; rw [if_neg (by omega)]
      rw [rcc] at rq
      have rr : -1 ≤ rc (π 1 m) ∧ rc (π 1 m) < 12 := by unfold rc; split <;> omega
      rw [wX12_isLeaf_4, pr.1.1, ep]
      refine ⟨by omega, by omega, fun z2 => absurd z2 (by omega), fun _ => ⟨by omega, by omega, by omega, fun z2 => ?_, fun z2 => ?_⟩⟩
      · exact ihd (m + 1) (by omega) (by omega) (by omega) (fun j j1 j2 => by
          by_cases u : j = m
          · subst u; exact z2 (rq.mpr j2)
          · exact hj j (by omega) j2)
      · refine k 0 (Or.inl rfl) ⟨fun q => by omega, fun q => ?_⟩
        have := kp.mpr ⟨m, by omega, rq.mp z2⟩
        unfold kids at q; omega
  have := loop ((π 0 0).toNat - (c.toNat + 1)) (c.toNat + 1) rfl (by omega) (by omega) (fun j j1 j2 => by
    have := ht.2.2 j (by omega) (by omega)
    omega)
  rw [show ((c.toNat + 1 : Nat) : Int) = c + 1 by omega] at this
  exact ⟨_, this⟩
def FrV (h h' : HP) : Prop := (∀ k, k ≠ 12 → k ≠ 56 → k ≠ 59 → k ≠ 60 → h' k = h k) ∧ (∀ j, j ≠ 23 → j ≠ 24 → h' 12 7 j = h 12 7 j)
theorem FrV.rf (h : HP) : FrV h h := ⟨fun _ _ _ _ _ => rfl, fun _ _ _ => rfl⟩
theorem FrV.tr {h h' h'' : HP} (a : FrV h h') (b : FrV h' h'') : FrV h h'' := ⟨fun k k1 k2 k3 k4 => by rw [b.1 k k1 k2 k3 k4, a.1 k k1 k2 k3 k4], fun j j1 j2 => by rw [b.2 j j1 j2, a.2 j j1 j2]⟩
theorem FrV.up56 {h : HP} {j v : Int} : FrV h (up h 56 7 j v) := ⟨fun k _ k2 _ _ => up_k k2, fun j _ _ => by rw [up_k (by decide)]⟩
theorem FrV.of5659 {h h' : HP} (f : Fr5659 h h') : FrV h h' := ⟨fun k _ k2 k3 _ => f k k2 k3, fun j _ _ => by rw [f 12 (by decide) (by decide)]⟩
theorem PlanR.fv {h h' : HP} {π : PL} (q : PlanR h π) (f : FrV h h') : PlanR h' π := q.congr (fun k k1 k2 => f.1 k (by omega) (by omega) (by omega) (by omega))
theorem CurveR.move {r r' : Int → Int} {c k : Int} {σ τ : ST} (q : CurveR r c k σ) (e : ∀ j, (257 * c + 4 * k ≤ j ∧ j ≤ 257 * c + 4 * k + 3) ∨ (257 * c + 38 + 73 * k ≤ j ∧ j ≤ 257 * c + 38 + 73 * k + 72) → r' j = r j)
    (f9 : τ 9 (3 * c + k) 0 = σ 9 (3 * c + k) 0) (f10 : τ 10 (3 * c + k) 0 = σ 10 (3 * c + k) 0) (f11 : τ 11 (3 * c + k) 0 = σ 11 (3 * c + k) 0) (f12 : τ 12 (3 * c + k) = σ 12 (3 * c + k)) (f13 : τ 13 (3 * c + k) = σ 13 (3 * c + k)) (fc : cur σ (3 * c + k) ≤ cur τ (3 * c + k)) (ft : σ 0 0 0 ≤ τ 0 0 0) : CurveR r' c k τ := by
  obtain ⟨b1, b2, b3, a1, a2, a3, a4, a5, a6⟩ := q
  unfold CurveR LaidR
  have eb : r' (257 * c + 38 + 73 * k) = r (257 * c + 38 + 73 * k) := e _ (by omega)
  have ex : ∀ i, 0 ≤ i → i < r (257 * c + 38 + 73 * k) → r' (257 * c + 38 + 73 * k + 1 + 2 * i) = r (257 * c + 38 + 73 * k + 1 + 2 * i) ∧ r' (257 * c + 38 + 73 * k + 2 + 2 * i) = r (257 * c + 38 + 73 * k + 2 + 2 * i) := fun i i0 i1 => ⟨e _ (by omega), e _ (by omega)⟩
  rw [f9, f10, f11, f12, f13, e (257 * c + 4 * k) (by omega), e (257 * c + 4 * k + 1) (by omega), e (257 * c + 4 * k + 2) (by omega), e (257 * c + 4 * k + 3) (by omega), eb]
  refine ⟨b1, b2, b3, a1, fun i i0 i1 => ?_, fun i j i0 i1 i2 h1 h2 => ?_, fun n hn => (a4 n (by omega)).congr (fun i i0 i1 => ?_), fun n hn => (a5 n (by omega)).congr (fun i i0 i1 => ?_), fun h3 i i0 i1 => ?_⟩
  · rw [(ex i i0 i1).1, (ex i i0 i1).2]
    have := a2 i i0 i1
    omega
  · rw [(ex i i0 (by omega)).2] at h1 ⊢
    rw [(ex j (by omega) i2).2] at h2 ⊢
    exact a3 i j i0 i1 i2 (by omega) (by omega)
  · show ltF τ _ (r' (257 * c + 38 + 73 * k + 1 + 2 * i)) (r' (257 * c + 38 + 73 * k + 2 + 2 * i)) n = _
    rw [(ex i i0 i1).1, (ex i i0 i1).2]
    unfold ltF
    rw [f9, f10, f11]
  · show ltE τ _ (r' (257 * c + 38 + 73 * k + 1 + 2 * i)) (r' (257 * c + 38 + 73 * k + 2 + 2 * i)) n = _
    rw [(ex i i0 i1).1, (ex i i0 i1).2]
    unfold ltE
    rw [f9, f10, f11]
  · rw [(ex i i0 i1).1]
    have := a6 h3 i i0 i1
    omega
/-- one slot written -/
theorem RowR.slot {r r' : Int → Int} {π : PL} {σ τ : ST} {c k : Int} (ht : treeOK π) (q : RowR r π σ) (hq : ∀ b, 0 ≤ b → b < π 0 0 → 0 ≤ σ 6 b 0 ∧ σ 6 b 0 ≤ 20) (c0 : 0 ≤ c) (c1 : c < π 0 0) (hk : 0 ≤ k ∧ k ≤ 2) (e : ∀ j, ¬ (257 * c + 38 + 73 * k ≤ j ∧ j ≤ 257 * c + 38 + 73 * k + 72) → ¬ (257 * c + 4 * k ≤ j ∧ j ≤ 257 * c + 4 * k + 3) → r' j = r j) (hc : CurveR r' c k τ) (et : ∀ k', k' < 9 → τ k' = σ k') (eo : ∀ k' t, t ≠ 3 * c + k → τ k' t = σ k' t) : RowR r' π τ := by
  have n12 := ht.2.1
  obtain ⟨q1, q2, q3⟩ := q
  have k3 : k = 0 ∨ k = 1 ∨ k = 2 := by omega
  unfold RowR
  rw [et 0 (by omega), et 1 (by omega), et 2 (by omega), et 3 (by omega), et 4 (by omega), et 5 (by omega), et 6 (by omega), et 7 (by omega), et 8 (by omega)]
  refine ⟨?_, fun f f0 f1 => ?_, fun b b0 b1 => ⟨?_, fun i i0 i1 => ?_, fun k' k0 k1 => ?_⟩⟩
  · rw [e 3084 (by omega) (by omega), e 3085 (by omega) (by omega), e 3086 (by omega) (by omega), e 3087 (by omega) (by omega), e 3088 (by omega) (by omega), e 3089 (by omega) (by omega), e 3090 (by omega) (by omega)]; exact q1
  · rw [e _ (by omega) (by omega)]; exact q2 f f0 f1
  · have h := (q3 b b0 b1).1
    rcases k3 with z | z | z <;> subst z <;> rw [e _ (by omega) (by omega), e _ (by omega) (by omega), e _ (by omega) (by omega), e _ (by omega) (by omega), e _ (by omega) (by omega), e _ (by omega) (by omega)] <;> exact h
  · have := hq b b0 b1
    have h := (q3 b b0 b1).2.1 i i0 i1
    rcases k3 with z | z | z <;> subst z <;> rw [e _ (by omega) (by omega)] <;> exact h
  · by_cases z : b = c ∧ k' = k
    · rw [z.1, z.2]; exact hc
    · have nz : 3 * b + k' ≠ 3 * c + k := by omega
      refine ((q3 b b0 b1).2.2 k' k0 k1).move (fun j hj => ?_) (by rw [eo 9 _ nz]) (by rw [eo 10 _ nz]) (by rw [eo 11 _ nz]) (eo 12 _ nz) (eo 13 _ nz) (by rw [cur_eq (et 1 (by omega)) (et 2 (by omega))]; exact Int.le_refl _) (by rw [et 0 (by omega)]; exact Int.le_refl _)
      have k3' : k' = 0 ∨ k' = 1 ∨ k' = 2 := by omega
      rcases k3 with u | u | u <;> rcases k3' with u' | u' | u' <;> subst u <;> subst u' <;> exact e j (by omega) (by omega)
theorem RowR.lay {r r' : Int → Int} {π : PL} {σ : ST} {c k x y : Int} (ht : treeOK π) (q : RowR r π σ) (hq : ∀ b, 0 ≤ b → b < π 0 0 → 0 ≤ σ 6 b 0 ∧ σ 6 b 0 ≤ 20) (c0 : 0 ≤ c) (c1 : c < π 0 0) (hk : 0 ≤ k ∧ k ≤ 2) (e : ∀ j, ¬ (257 * c + 38 + 73 * k ≤ j ∧ j ≤ 257 * c + 38 + 73 * k + 72) → r' j = r j) (hc : CurveR r' c k (layA σ (3 * c + k) x y)) : RowR r' π (layA σ (3 * c + k) x y) :=
  q.slot ht hq c0 c1 hk (fun j h1 _ => e j h1) hc (fun k' h => layA_k (by omega) (by omega)) (fun k' t h => layA_o h)
theorem virA_row {r r' : Int → Int} {π : PL} {σ : ST} {c v p : Int} (ht : treeOK π) (q : RowR r π σ) (hq : ∀ b, 0 ≤ b → b < π 0 0 → 0 ≤ σ 6 b 0 ∧ σ 6 b 0 ≤ 20) (c0 : 0 ≤ c) (c1 : c < π 0 0) (hp : p = if π 1 c = 12 then 3088 else 257 * π 1 c + 15)
    (e : ∀ j, r' j = if j = p then max (r p) v else if j = 257 * c + 14 then v else r j) : RowR r' π (virA π σ c v) := by
  have n12 := ht.2.1
  have pp := par_ok ht c0 c1
  obtain ⟨q1, q2, q3⟩ := q
  have en : ∀ j, j ≠ p → j ≠ 257 * c + 14 → r' j = r j := fun j h1 h2 => by rw [e j, if_neg h1, if_neg h2]
  have pr : p = 3088 ∨ (∃ b, 0 ≤ b ∧ b < π 0 0 ∧ π 1 c = b ∧ p = 257 * b + 15) := by
    rw [hp]
    split
    · exact Or.inl rfl
    · exact Or.inr ⟨π 1 c, by omega, by omega, rfl, rfl⟩
  have pn : ∀ j, j ≠ 3088 → (∀ b, 0 ≤ b → b < π 0 0 → j ≠ 257 * b + 15) → j ≠ p := by
    intro j h1 h2
    rcases pr with z | ⟨b, b0, b1, -, z⟩
    · omega
    · have := h2 b b0 b1; omega
  have ep : r' p = max (r p) v := by rw [e p, if_pos rfl]
  have g : ∀ k, k ≠ 3 → k ≠ 4 → virA π σ c v k = σ k := fun k k1 k2 => virA_k k1 k2
  unfold RowR
  rw [g 0 (by decide) (by decide), g 1 (by decide) (by decide), g 2 (by decide) (by decide), g 5 (by decide) (by decide), g 6 (by decide) (by decide), g 7 (by decide) (by decide), g 8 (by decide) (by decide)]
  have far : ∀ j, 3084 ≤ j → j ≠ 3088 → r' j = r j := fun j h1 h2 => en j (pn j h2 (fun b b0 b1 => by omega)) (by omega)
  refine ⟨?_, fun f f0 f1 => ?_, fun b b0 b1 => ⟨?_, fun i i0 i1 => ?_, fun k' k0 k1 => ?_⟩⟩
  · rw [far 3084 (by omega) (by omega), far 3085 (by omega) (by omega), far 3086 (by omega) (by omega), far 3087 (by omega) (by omega), far 3089 (by omega) (by omega), far 3090 (by omega) (by omega)]
    refine ⟨q1.1, q1.2.1, q1.2.2.1, q1.2.2.2.1, ?_, q1.2.2.2.2.2.1, q1.2.2.2.2.2.2⟩
    by_cases z : π 1 c = 12
    · rw [if_pos z] at hp
      rw [hp, q1.2.2.2.2.1] at ep
      have := virA_4 (π := π) (σ := σ) (c := c) (v := v)
      rw [z] at this
      rw [this, ep]
    · rw [if_neg z] at hp
      rw [en 3088 (by omega) (by omega), virA_4o (fun h => z h.symm)]
      exact q1.2.2.2.2.1
  · rw [far _ (by omega) (by omega)]; exact q2 f f0 f1
  · obtain ⟨d1, d2, d3, d4, d5, d6⟩ := (q3 b b0 b1).1
    have ne : ∀ m, m = 12 ∨ m = 13 ∨ m = 16 ∨ m = 17 → r' (257 * b + m) = r (257 * b + m) := fun m hm => en _ (pn _ (by omega) (fun b' _ _ => by omega)) (by omega)
    refine ⟨by rw [ne 12 (by omega)]; exact d1, by rw [ne 13 (by omega)]; exact d2, ?_, ?_, by rw [ne 16 (by omega)]; exact d5, by rw [ne 17 (by omega)]; exact d6⟩
    · have n14 : 257 * b + 14 ≠ p := pn _ (by omega) (fun b' _ _ => by omega)
      rw [e, if_neg n14]
      by_cases z : b = c
      · subst z; rw [if_pos rfl, virA_3]
      · rw [if_neg (by omega), virA_3o z]; exact d3
    · by_cases z : b = π 1 c
      · subst z
        rw [if_neg (by omega)] at hp
        rw [hp, d4] at ep
        rw [virA_4, ep]
      · rw [virA_4o z]
        have n15 : 257 * b + 15 ≠ p := by
          rcases pr with w | ⟨b', b0', b1', w1, w2⟩
          · omega
          · rw [w1] at z; omega
        rw [en _ n15 (by omega)]; exact d4
  · have := hq b b0 b1
    rw [en _ (pn _ (by omega) (fun b' _ _ => by omega)) (by omega)]
    exact (q3 b b0 b1).2.1 i i0 i1
  · have k3 : k' = 0 ∨ k' = 1 ∨ k' = 2 := by omega
    refine ((q3 b b0 b1).2.2 k' k0 k1).move (fun j hj => en j (pn j ?_ (fun b' _ _ => ?_)) ?_) (by rw [g 9 (by decide) (by decide)]) (by rw [g 10 (by decide) (by decide)]) (by rw [g 11 (by decide) (by decide)]) (by rw [g 12 (by decide) (by decide)]) (by rw [g 13 (by decide) (by decide)]) (by rw [cur_eq (g 1 (by decide) (by decide)) (g 2 (by decide) (by decide))]; exact Int.le_refl _) (by rw [g 0 (by decide) (by decide)]; exact Int.le_refl _)
    · rcases k3 with z | z | z <;> subst z <;> omega
    · rcases k3 with z | z | z <;> subst z <;> omega
    · rcases k3 with z | z | z <;> subst z <;> omega
theorem RX.fv {h h' : HP} {π : PL} {K : Int} {σ τ : ST} (x : RX h π K σ) (f : FrV h h') (inv : AInv π K τ) (row : RowR (h' 56 7) π τ) : RX h' π K τ := ⟨x.1, x.2.1.fv f, inv, row⟩
theorem putV_r {h : HP} {π : PL} {K c v : Int} {σ : ST} {P : HP → Prop} (x : RX h π K σ) (c0 : 0 ≤ c) (c1 : c < π 0 0) (hv : 0 ≤ v ∧ v ≤ 100000000) (k : ∀ h', FrV h h' → (∀ k, k ≠ 56 → h' k = h k) → RowR (h' 56 7) π (virA π σ c v) → P h') : wX12_putVirtual 7 c v h P := by
  obtain ⟨hp, pr, inv, row⟩ := id x
  have n12 := hp.1.2.1
  have pp := par_ok hp.1 c0 c1
  have ep := pr.par c0 c1
  have cr := inv.2.2.1
  have tr := inv.1
  unfold wX12_putVirtual
  refine ⟨by omega, fun h1 e1 => ?_⟩
  have e50 : h1 50 7 c = rc (π 1 c) := by rw [e1, up_k (by decide)]; exact ep
  have rr : -1 ≤ rc (π 1 c) ∧ rc (π 1 c) < 12 := by unfold rc; split <;> omega
  rw [e50]
  refine ⟨by omega, ⟨by omega, fun _ => by omega⟩, fun t6 h6 => ?_⟩
  have e6 : t6 = if π 1 c = 12 then 3088 else 257 * π 1 c + 15 := by
    by_cases z : π 1 c = 12
    · have : rc (π 1 c) = -1 := by unfold rc; rw [if_pos z]
      rw [if_pos z]; exact h6.2 this
    · have : rc (π 1 c) = π 1 c := by unfold rc; rw [if_neg z]
      rw [if_neg z, h6.1 (by omega), this]
  have t6r : 0 ≤ t6 ∧ t6 < 3099 ∧ t6 ≠ 257 * c + 14 := by
    rw [e6]
    split <;> omega
  have y6 : h1 56 7 t6 = h 56 7 t6 := by rw [e1, up_j t6r.2.2]
  have p6 : 0 ≤ h 56 7 t6 ∧ h 56 7 t6 ≤ 100000000 := by
    rw [e6]
    split
    · rename_i z
      have := inv.2.2.2.2.2.2.2.1 12 (Or.inr rfl)
      rw [row.1.2.2.2.2.1]; omega
    · have := inv.2.2.2.2.2.2.2.1 (π 1 c) (by omega)
      rw [(row.2.2 (π 1 c) (by omega) (by omega)).1.2.2.2.1]; omega
  rw [y6]
  refine ⟨by omega, by omega, by omega, by omega, fun h11 e11 => ?_⟩
  refine k h11 (by rw [e11, e1]; exact FrV.up56.tr FrV.up56) (fun k' hk' => by rw [e11, up_k hk', e1, up_k hk']) (virA_row (p := t6) hp.1 row (fun b b0 b1 => inv.qln b b0 b1) c0 c1 e6 (fun j => ?_))
  rw [e11, up_ji, e1, up_ji]
