theorem par_ok {π : PL} (ht : treeOK π) {a : Int} (a0 : 0 ≤ a) (a1 : a < π 0 0) : π 1 a = 12 ∨ (0 ≤ π 1 a ∧ π 1 a < π 0 0) := by
  rcases ht.2.2 a a0 a1 with q | q
  · exact Or.inl q
  · exact Or.inr ⟨q.1, by omega⟩
theorem inCh_not_up {π : PL} (ht : treeOK π) {a : Int} (a0 : 0 ≤ a) (a1 : a < π 0 0) : ¬ inCh π (π 1 a) a := by
  intro h
  rcases ht.2.2 a a0 a1 with q | q
  · rw [q, inCh_12] at h
    have := ht.2.1
    omega
  · rcases inCh_up ht q.1 (by omega) h with r | r
    · have := ht.2.1
      omega
    · omega
/-- what climbing with a packet sent does -/
theorem climbS_all {π : PL} {z : Int} (ht : treeOK π) : ∀ (f : Nat) {τ : ST} {a : Int}, (a = 12 ∨ (0 ≤ a ∧ a < π 0 0 ∧ a < f)) →
    (∀ k, k ≠ 1 → k ≠ 3 → k ≠ 4 → climbS π z f τ a k = τ k) ∧
    (∀ b, 0 ≤ b → b < π 0 0 → (inCh π a b → climbS π z f τ a 1 b 0 = τ 1 b 0 + z ∧ climbS π z f τ a 3 b 0 = τ 12 (3 * b + 1) (τ 1 b 0 + z)) ∧ (¬ inCh π a b → climbS π z f τ a 1 b = τ 1 b ∧ climbS π z f τ a 3 b = τ 3 b)) ∧
    (∀ B, (∀ b, 0 ≤ b → b < π 0 0 → inCh π a b → τ 12 (3 * b + 1) (τ 1 b 0 + z) ≤ B) → ∀ c, 0 ≤ τ 4 c 0 → τ 4 c 0 ≤ B → 0 ≤ climbS π z f τ a 4 c 0 ∧ climbS π z f τ a 4 c 0 ≤ B) := by
  have h12 : ∀ (τ : ST), (∀ b, 0 ≤ b → b < π 0 0 → ¬ inCh π 12 b) := fun τ b b0 b1 h => by
    rw [inCh_12] at h
    have := ht.2.1
    omega
  intro f
  induction f with
  | zero =>
    intro τ a ha
    have e : a = 12 := by omega
    subst e
    exact ⟨fun _ _ _ _ => rfl, fun b b0 b1 => ⟨fun h => absurd h (h12 τ b b0 b1), fun _ => ⟨rfl, rfl⟩⟩, fun B _ c c0 c1 => ⟨c0, c1⟩⟩
  | succ f ih =>
    intro τ a ha
    by_cases e : a = 12
    · subst e
      have e : climbS π z (f + 1) τ 12 = τ := by unfold climbS; rw [if_pos rfl]
      rw [e]
      exact ⟨fun _ _ _ _ => rfl, fun b b0 b1 => ⟨fun h => absurd h (h12 τ b b0 b1), fun _ => ⟨rfl, rfl⟩⟩, fun B _ c c0 c1 => ⟨c0, c1⟩⟩
    · have a0 : 0 ≤ a := by omega
      have a1 : a < π 0 0 := by omega
      have e2 : climbS π z (f + 1) τ a = climbS π z f (stepS π z τ a) (π 1 a) := by
        show (if a = 12 then τ else _) = _
        rw [if_neg e]
      rw [e2]
      have hp : π 1 a = 12 ∨ (0 ≤ π 1 a ∧ π 1 a < π 0 0 ∧ π 1 a < f) := by
        rcases ht.2.2 a a0 a1 with q | q
        · exact Or.inl q
        · exact Or.inr ⟨q.1, by omega, by omega⟩
      obtain ⟨i1, i2, i3⟩ := ih (τ := stepS π z τ a) hp
      have nu := inCh_not_up ht a0 a1
      have s1 : stepS π z τ a 1 a 0 = τ 1 a 0 + z := by unfold stepS; rw [virA_k (by decide) (by decide), up_eq]
      have s1o : ∀ b, b ≠ a → stepS π z τ a 1 b = τ 1 b := fun b hb => by unfold stepS; rw [virA_k (by decide) (by decide), up_i hb]
      have s3 : stepS π z τ a 3 a 0 = τ 12 (3 * a + 1) (τ 1 a 0 + z) := by unfold stepS; rw [virA_3]
      have s3o : ∀ b, b ≠ a → stepS π z τ a 3 b = τ 3 b := fun b hb => by unfold stepS; rw [virA_3o hb, up_k (by decide)]
      have sk : ∀ k, k ≠ 1 → k ≠ 3 → k ≠ 4 → stepS π z τ a k = τ k := fun k k1 k3 k4 => by unfold stepS; rw [virA_k k3 k4, up_k k1]
      refine ⟨fun k k1 k3 k4 => by rw [i1 k k1 k3 k4, sk k k1 k3 k4], fun b b0 b1 => ⟨fun h => ?_, fun h => ?_⟩, fun B hB c c0 c1 => ?_⟩
      · by_cases eb : b = a
        · subst eb
          obtain ⟨g1, g2⟩ := (i2 b b0 b1).2 nu
          rw [g1, g2]
          exact ⟨s1, s3⟩
        · have hb : inCh π (π 1 a) b := by
            rcases (inCh_iff e).mp h with q | q
            · exact absurd q.symm eb
            · exact q
          obtain ⟨g1, g2⟩ := (i2 b b0 b1).1 hb
          rw [g1, g2, s1o b eb, sk 12 (by decide) (by decide) (by decide)]
          exact ⟨rfl, rfl⟩
      · have eb : b ≠ a := fun q => h (by rw [q]; exact inCh_rf _ _)
        have hb : ¬ inCh π (π 1 a) b := fun q => h ((inCh_iff e).mpr (Or.inr q))
        obtain ⟨g1, g2⟩ := (i2 b b0 b1).2 hb
        rw [g1, g2]
        exact ⟨s1o b eb, s3o b eb⟩
      · have hv := hB a a0 a1 (inCh_rf _ _)
        refine i3 B (fun b b0 b1 h => ?_) c ?_ ?_
        · have eb : b ≠ a := fun q => nu (by rw [q] at h; exact h)
          rw [s1o b eb, sk 12 (by decide) (by decide) (by decide)]
          exact hB b b0 b1 ((inCh_iff e).mpr (Or.inr h))
        · by_cases q : c = π 1 a
          · subst q; unfold stepS; rw [virA_4, up_k (by decide)]; omega
          · unfold stepS; rw [virA_4o q, up_k (by decide)]; exact c0
        · by_cases q : c = π 1 a
          · subst q; unfold stepS; rw [virA_4, up_k (by decide)]; omega
          · unfold stepS; rw [virA_4o q, up_k (by decide)]; exact c1
theorem popA_k {σ : ST} {l : Int} {k : Nat} (h1 : k ≠ 6) (h2 : k ≠ 7) : popA σ l k = σ k := by unfold popA; rw [up_k h1, upr_k h2]
theorem popA_6 {σ : ST} {l : Int} : popA σ l 6 l 0 = σ 6 l 0 - 1 := by unfold popA; rw [up_eq]
theorem popA_6o {σ : ST} {l b : Int} (h : b ≠ l) : popA σ l 6 b = σ 6 b := by unfold popA; rw [up_i h, upr_k (by decide)]
theorem popA_7 {σ : ST} {l : Int} : popA σ l 7 l = fun i => σ 7 l ((i + 1) % 20) := by unfold popA; rw [up_k (by decide), upr_eq]
theorem popA_7o {σ : ST} {l b : Int} (h : b ≠ l) : popA σ l 7 b = σ 7 b := by unfold popA; rw [up_k (by decide), upr_i h]
/-- what sending does, field by field -/
theorem sendA_all {π : PL} {σ : ST} (ht : treeOK π) {l g : Int} (l0 : 0 ≤ l) (l1 : l < π 0 0) :
    (sendA π σ l g 0 0 0 = σ 0 0 0 ∧ sendA π σ l g 0 1 0 = σ 7 l 0 ∧ sendA π σ l g 0 2 0 = σ 0 2 0 + 1 ∧ sendA π σ l g 0 3 0 = σ 0 3 0 + g ∧ sendA π σ l g 0 4 0 = l ∧ sendA π σ l g 0 5 0 = σ 0 5 0) ∧
    (∀ k, k = 5 ∨ 8 ≤ k → sendA π σ l g k = σ k) ∧ (sendA π σ l g 6 = popA σ l 6 ∧ sendA π σ l g 7 = popA σ l 7) ∧
    (sendA π σ l g 2 l 0 = σ 2 l 0 + g * σ 7 l 0 ∧ ∀ b, b ≠ l → sendA π σ l g 2 b = σ 2 b) ∧
    (∀ b, 0 ≤ b → b < π 0 0 → (inCh π l b → sendA π σ l g 1 b 0 = σ 1 b 0 + σ 7 l 0 ∧ sendA π σ l g 3 b 0 = σ 12 (3 * b + 1) (σ 1 b 0 + σ 7 l 0)) ∧ (¬ inCh π l b → sendA π σ l g 1 b = σ 1 b ∧ sendA π σ l g 3 b = σ 3 b)) ∧
    (∀ B, (∀ b, 0 ≤ b → b < π 0 0 → inCh π l b → σ 12 (3 * b + 1) (σ 1 b 0 + σ 7 l 0) ≤ B) → ∀ c, 0 ≤ σ 4 c 0 → σ 4 c 0 ≤ B → 0 ≤ sendA π σ l g 4 c 0 ∧ sendA π σ l g 4 c 0 ≤ B) := by
  obtain ⟨c1, c2, c3⟩ := climbS_all (z := σ 7 l 0) ht 13 (τ := up (up (popA σ l) 2 l 0 (σ 2 l 0 + g * σ 7 l 0)) 0 3 0 (σ 0 3 0 + g)) (a := l) (Or.inr ⟨l0, l1, by have := ht.2.1; omega⟩)
  have t : ∀ k, k ≠ 0 → k ≠ 2 → k ≠ 6 → k ≠ 7 → (up (up (popA σ l) 2 l 0 (σ 2 l 0 + g * σ 7 l 0)) 0 3 0 (σ 0 3 0 + g)) k = σ k := fun k k0 k2 k6 k7 => by rw [up_k k0, up_k k2, popA_k k6 k7]
  have s : ∀ k, k ≠ 0 → sendA π σ l g k = climbS π (σ 7 l 0) 13 (up (up (popA σ l) 2 l 0 (σ 2 l 0 + g * σ 7 l 0)) 0 3 0 (σ 0 3 0 + g)) l k := fun k k0 => by unfold sendA; rw [up_k k0, up_k k0, up_k k0]
  have z : climbS π (σ 7 l 0) 13 (up (up (popA σ l) 2 l 0 (σ 2 l 0 + g * σ 7 l 0)) 0 3 0 (σ 0 3 0 + g)) l 0 = up σ 0 3 0 (σ 0 3 0 + g) 0 := by
    rw [c1 0 (by decide) (by decide) (by decide)]
    funext i j
    by_cases q : i = 3
    · subst q
      rw [up_ji, up_ji, up_k (by decide), popA_k (by decide) (by decide)]
    · rw [up_i q, up_i q, up_k (by decide), popA_k (by decide) (by decide)]
  refine ⟨⟨?_, ?_, ?_, ?_, ?_, ?_⟩, fun k hk => ?_, ⟨?_, ?_⟩, ⟨?_, fun b hb => ?_⟩, fun b b0 b1 => ?_, fun B hB c c0 c1' => ?_⟩
  · unfold sendA; rw [up_i (by decide), up_i (by decide), up_i (by decide), z, up_i (by decide)]
  · unfold sendA; rw [up_eq]
  · unfold sendA; rw [up_i (by decide), up_i (by decide), up_eq]
  · unfold sendA; rw [up_i (by decide), up_i (by decide), up_i (by decide), z, up_eq]
  · unfold sendA; rw [up_i (by decide), up_eq]
  · unfold sendA; rw [up_i (by decide), up_i (by decide), up_i (by decide), z, up_i (by decide)]
  · rw [s k (by omega), c1 k (by omega) (by omega) (by omega), t k (by omega) (by omega) (by omega) (by omega)]
  · rw [s 6 (by decide), c1 6 (by decide) (by decide) (by decide), up_k (by decide), up_k (by decide)]
  · rw [s 7 (by decide), c1 7 (by decide) (by decide) (by decide), up_k (by decide), up_k (by decide)]
  · rw [s 2 (by decide), c1 2 (by decide) (by decide) (by decide), up_k (by decide), up_eq]
  · rw [s 2 (by decide), c1 2 (by decide) (by decide) (by decide), up_k (by decide), up_i hb, popA_k (by decide) (by decide)]
  · have := c2 b b0 b1
    rw [t 1 (by decide) (by decide) (by decide) (by decide), t 3 (by decide) (by decide) (by decide) (by decide), t 12 (by decide) (by decide) (by decide) (by decide), ← s 1 (by decide), ← s 3 (by decide)] at this
    exact this
  · rw [s 4 (by decide)]
    refine c3 B (fun b b0 b1 h => ?_) c ?_ ?_
    · rw [t 12 (by decide) (by decide) (by decide) (by decide), t 1 (by decide) (by decide) (by decide) (by decide)]; exact hB b b0 b1 h
    · rw [t 4 (by decide) (by decide) (by decide) (by decide)]; exact c0
    · rw [t 4 (by decide) (by decide) (by decide) (by decide)]; exact c1'
theorem tickA_k {σ : ST} {k : Nat} (h : k ≠ 0) : tickA σ k = σ k := by unfold tickA; rw [up_k h, up_k h]
theorem tickA_0 {σ : ST} {i : Int} (h0 : i ≠ 0) (h1 : i ≠ 1) : tickA σ 0 i = σ 0 i := by unfold tickA; rw [up_i h0, up_i h1]
theorem tickA_t {σ : ST} : tickA σ 0 0 0 = σ 0 0 0 + 1 := by unfold tickA; rw [up_eq]
theorem tickA_b {σ : ST} : tickA σ 0 1 0 = if 0 < σ 0 1 0 then σ 0 1 0 - 1 else σ 0 1 0 := by unfold tickA; rw [up_i (by decide), up_eq]
theorem tickA_inv {π : PL} {K : Int} {σ : ST} (h : AInv π (K + 8) σ) (hT : σ 0 0 0 + 1 ≤ 2700) : AInv π K (tickA σ) := by
  obtain ⟨a1, a2, a3, a4, a5, a6, a7, a8, a9, a10⟩ := h
  have e : ∀ k, k ≠ 0 → tickA σ k = σ k := fun k k0 => tickA_k k0
  unfold AInv classOK slotOK
  rw [tickA_0 (i := 2) (by decide) (by decide), tickA_0 (i := 3) (by decide) (by decide), tickA_0 (i := 4) (by decide) (by decide), tickA_0 (i := 5) (by decide) (by decide), tickA_t, tickA_b,
    e 1 (by decide), e 2 (by decide), e 3 (by decide), e 4 (by decide), e 5 (by decide), e 6 (by decide), e 7 (by decide), e 8 (by decide), e 9 (by decide), e 10 (by decide), e 11 (by decide), e 12 (by decide), e 13 (by decide)]
  refine ⟨by omega, by split <;> omega, by omega, a4, a5, a6, fun b b0 b1 => ?_, a8, a9, fun t t0 t1 => ?_⟩
  · obtain ⟨b1, b2, b3, b4⟩ := a7 b b0 b1
    exact ⟨by split <;> omega, b2, by omega, b4⟩
  · have := a10 t t0 t1
    unfold slotOK at this
    obtain ⟨o1, o2, o3, o4⟩ := this
    rw [cur_eq (e 1 (by decide)) (e 2 (by decide))]
    exact ⟨o1, o2, o3, fun q n hn => by have := o4 q n hn; omega⟩
theorem sendA_inv {π : PL} {K : Int} {σ : ST} (ht : treeOK π) (h : AInv π (K + 8) σ) (hT : σ 0 0 0 + 1 ≤ 2700) (hb : σ 0 1 0 = 0) {l g : Int} (l0 : 0 ≤ l) (l1 : l < π 0 0) (hg : g = 0 ∨ g = 1) (hq : 0 < σ 6 l 0) : AInv π K (tickA (sendA π σ l g)) := by
  obtain ⟨⟨s00, s01, s02, s03, s04, s05⟩, sk, ⟨s6, s7⟩, ⟨s2, s2o⟩, s13, s4⟩ := sendA_all (σ := σ) (g := g) ht l0 l1
  obtain ⟨a1, a2, a3, a4, a5, a6, a7, a8, a9, a10⟩ := h
  have e : ∀ k, k ≠ 0 → tickA (sendA π σ l g) k = sendA π σ l g k := fun k k0 => tickA_k k0
  obtain ⟨lb1, lb2, lb3, lb4, lb5, lb6, lb7⟩ := a7 l l0 l1
  have hz := lb6 0 (Int.le_refl _) hq
  have gz : g * σ 7 l 0 = if g = 1 then σ 7 l 0 else 0 := by
    rcases hg with q | q
    · subst q; rw [Int.zero_mul]; rfl
    · subst q; rw [Int.one_mul]; rfl
  have vB : ∀ b, 0 ≤ b → b < π 0 0 → 0 ≤ σ 12 (3 * b + 1) (σ 1 b 0 + σ 7 l 0) ∧ σ 12 (3 * b + 1) (σ 1 b 0 + σ 7 l 0) ≤ σ 3 b 0 + 6431 := by
    intro b b0 b1
    obtain ⟨c1, c2, c3, c4, c5, c6, c7, c8, c9⟩ := a7 b b0 b1
    have o := (a10 (3 * b + 1) (by omega) (by omega)).2.1
    rw [cur_1] at o
    have o1 := o (σ 1 b 0) (Int.le_refl _)
    have o2 := o1.2 (σ 7 l 0) (by omega)
    omega
  unfold AInv
  rw [tickA_0 (i := 2) (by decide) (by decide), tickA_0 (i := 3) (by decide) (by decide), tickA_0 (i := 4) (by decide) (by decide), tickA_0 (i := 5) (by decide) (by decide), tickA_t, tickA_b, s00, s01, s02, s03, s04, s05]
  refine ⟨by omega, by rw [if_pos (by omega)]; omega, by omega, by omega, Or.inr ⟨l0, l1⟩, a6, fun b b0 b1 => ?_, fun c hc => ?_, fun f f0 f1 => ?_, fun t t0 t1 => ?_⟩
  · unfold classOK
    rw [tickA_t, tickA_b, tickA_0 (i := 2) (by decide) (by decide), s00, s01, s02, e 1 (by decide), e 2 (by decide), e 3 (by decide), e 5 (by decide), e 6 (by decide), e 7 (by decide), e 11 (by decide), e 12 (by decide), sk 5 (by omega), sk 11 (by omega), sk 12 (by omega), s6, s7, if_pos (by omega)]
    obtain ⟨c1, c2, c3, c4, c5, c6, c7, c8, c9⟩ := a7 b b0 b1
    have v := vB b b0 b1
    have h2 : 0 ≤ sendA π σ l g 2 b 0 ∧ sendA π σ l g 2 b 0 ≤ σ 2 b 0 + (if b = l then σ 7 l 0 else 0) := by
      by_cases q : b = l
      · subst q
        rw [s2, gz, if_pos rfl]
        split <;> omega
      · rw [s2o b q, if_neg q]; omega
    have h6 : popA σ l 6 b 0 = σ 6 b 0 - (if b = l then 1 else 0) := by
      by_cases q : b = l
      · subst q; rw [popA_6, if_pos rfl]
      · rw [popA_6o q, if_neg q]; omega
    by_cases q : inCh π l b
    · obtain ⟨g1, g3⟩ := (s13 b b0 b1).1 q
      rw [g1, g3, h6]
      refine ⟨by split at h2 <;> omega, by omega, by omega, by by_cases y : b = l <;> (first | subst y | skip) <;> simp [*] <;> omega, fun y => ?_, fun i i0 i1 => ?_, c7, c8, Int.le_refl _⟩
      · have := c5 y
        by_cases w : b = l
        · subst w; omega
        · rw [if_neg w]; omega
      · by_cases w : b = l
        · subst w
          rw [if_pos rfl] at i1
          rw [popA_7]
          show 1 ≤ σ 7 b ((i + 1) % 20) ∧ σ 7 b ((i + 1) % 20) ≤ 64
          have : (i + 1) % 20 = i + 1 := by omega
          rw [this]
          exact c6 (i + 1) (by omega) (by omega)
        · rw [if_neg w] at i1
          rw [popA_7o w]
          exact c6 i i0 (by omega)
    · have w : b ≠ l := fun y => q (by rw [y]; exact inCh_rf _ _)
      obtain ⟨g1, g3⟩ := (s13 b b0 b1).2 q
      rw [g1, g3, h6, popA_7o w, if_neg w]
      rw [if_neg w] at h2
      rw [s2o b w]
      exact ⟨by omega, by omega, by omega, by omega, fun y => by have := c5 y; omega, fun i i0 i1 => c6 i i0 (by omega), c7, c8, c9⟩
  · rw [e 4 (by decide)]
    have := a8 c hc
    refine s4 (6500 * (σ 0 2 0 + 1)) (fun b b0 b1 _ => ?_) c this.1 (by omega)
    have v := vB b b0 b1
    have c2 := (a7 b b0 b1).2.1
    omega
  · rw [e 8 (by decide), sk 8 (by omega)]; exact a9 f f0 f1
  · have := a10 t t0 t1
    unfold slotOK at *
    obtain ⟨o1, o2, o3, o4⟩ := this
    rw [tickA_t, s00, e 9 (by decide), e 10 (by decide), e 11 (by decide), e 12 (by decide), e 13 (by decide), sk 9 (by omega), sk 10 (by omega), sk 11 (by omega), sk 12 (by omega), sk 13 (by omega), cur_eq (e 1 (by decide)) (e 2 (by decide))]
    have cc : cur σ t ≤ cur (sendA π σ l g) t := by
      have b0 : 0 ≤ t / 3 := by omega
      have b1 : t / 3 < π 0 0 := by omega
      unfold cur
      split
      · by_cases q : t / 3 = l
        · rw [q, s2, gz]; split <;> omega
        · rw [s2o _ q]; exact Int.le_refl _
      · by_cases q : inCh π l (t / 3)
        · rw [((s13 _ b0 b1).1 q).1]; omega
        · rw [((s13 _ b0 b1).2 q).1]; exact Int.le_refl _
    exact ⟨o1, o2.mono cc, o3.mono cc, fun q n hn => by have := o4 q n (by omega); omega⟩
theorem bgA_rng (σ : ST) : ∀ m : Nat, bgA σ m = -1 ∨ (0 ≤ bgA σ m ∧ bgA σ m < m ∧ 0 < σ 6 (bgA σ m) 0 ∧ 0 < σ 11 (3 * bgA σ m) 0 ∧ eligA σ (bgA σ m) ≤ σ 0 0 0) := by
  intro m
  induction m with
  | zero => exact Or.inl rfl
  | succ m ih =>
    unfold bgA
    split
    · rename_i h; exact Or.inr ⟨by omega, by omega, h.1, h.2.1, h.2.2.1⟩
    · rcases ih with q | q
      · exact Or.inl q
      · exact Or.inr ⟨q.1, by omega, q.2.2⟩
theorem lstI_rng (π : PL) (σ : ST) (i : Int) : ∀ m : Nat, lstI π σ i m = -1 ∨ (0 ≤ lstI π σ i m ∧ lstI π σ i m < m ∧ π 1 (lstI π σ i m) = i ∧ 0 < hel π σ (lstI π σ i m)) := by
  intro m
  induction m with
  | zero => exact Or.inl rfl
  | succ m ih =>
    unfold lstI
    split
    · rename_i h; exact Or.inr ⟨by omega, by omega, h.1, h.2.1⟩
    · rcases ih with q | q
      · exact Or.inl q
      · exact Or.inr ⟨q.1, by omega, q.2.2⟩
theorem kidN_pos {π : PL} {c : Int} : ∀ m : Nat, 0 ≤ kidN π c m ∧ kidN π c m ≤ m ∧ (0 < kidN π c m ↔ ∃ k : Nat, k < m ∧ π 1 k = c) := by
  intro m
  induction m with
  | zero => exact ⟨Int.le_refl _, Int.le_refl _, fun h => by have : (0 : Int) < 0 := h; omega, fun ⟨k, h, _⟩ => by omega⟩
  | succ m ih =>
    obtain ⟨i1, i2, i3⟩ := ih
    unfold kidN
    split
    · rename_i h
      exact ⟨by omega, by omega, fun _ => ⟨m, by omega, h⟩, fun _ => by omega⟩
    · rename_i h
      refine ⟨i1, by omega, fun q => ?_, fun ⟨k, k1, k2⟩ => ?_⟩
      · obtain ⟨k, k1, k2⟩ := i3.mp q
        exact ⟨k, by omega, k2⟩
      · by_cases e : k = m
        · subst e; exact absurd k2 h
        · exact i3.mpr ⟨k, by omega, k2⟩
/-- a leaf's packets are its own -/
theorem hel_leaf {π : PL} {σ : ST} (ht : treeOK π) {l : Int} (l0 : 0 ≤ l) (l1 : l < π 0 0) (hk : kids π l = 0) : hel π σ l = σ 6 l 0 := by
  have el : ((l.toNat : Nat) : Int) = l := Int.toNat_of_nonneg l0
  have only : ∀ k : Int, 0 ≤ k → k < π 0 0 → inCh π k l → k = l := by
    intro k k0 k1 h
    by_cases e : k = l
    · exact e
    · exfalso
      obtain ⟨j, hj⟩ := h
      -- the one ahead of l on the chain is right in l
      have : ∀ (j : Nat) (k : Int), 0 ≤ k → k < π 0 0 → k ≠ l → upc π j k = l → ∃ m : Int, 0 ≤ m ∧ m < π 0 0 ∧ π 1 m = l := by
        intro j
        induction j with
        | zero => intro k _ _ hk hj; exact absurd hj hk
        | succ j ih =>
          intro k k0 k1 hk hj
          rw [upc_s π j (by have := ht.2.1; omega)] at hj
          by_cases q : π 1 k = l
          · exact ⟨k, k0, k1, q⟩
          · rcases par_ok ht k0 k1 with r | r
            · rw [r, upc_12] at hj; have := ht.2.1; omega
            · exact ih _ r.1 r.2 q hj
      obtain ⟨m, m0, m1, m2⟩ := this j k k0 k1 e hj
      have := ((kidN_pos (π := π) (c := l) (π 0 0).toNat).2.2).mpr ⟨m.toNat, by omega, by rw [Int.toNat_of_nonneg m0]; exact m2⟩
      unfold kids at hk
      omega
  have := sumN_one (f := fun _ => 0) (g := helT π σ l) (l := l.toNat) (δ := σ 6 l 0) (m := (π 0 0).toNat) (fun k hk2 hkl => helT_n (fun q => hkl (by have := only k (by omega) (by omega) q; omega))) (by rw [helT_y (by rw [el]; exact inCh_rf _ _), el]; omega)
  have z : ∀ m, sumN (fun _ => 0) m = 0 := by
    intro m
    induction m with
    | zero => rfl
    | succ m ih => show sumN (fun _ => 0) m + 0 = 0; omega
  rw [z, if_pos (by omega)] at this
  unfold hel
  omega
theorem bsF_rng {π : PL} {σ : ST} (ht : treeOK π) : ∀ (f : Nat) (c : Int), (c = -1 ∨ (0 ≤ c ∧ c < π 0 0 ∧ 0 < hel π σ c)) → (bsF π σ f c = -1 ∨ (0 ≤ bsF π σ f c ∧ bsF π σ f c < π 0 0 ∧ 0 < hel π σ (bsF π σ f c) ∧ (π 0 0 - c ≤ f → kids π (bsF π σ f c) = 0))) := by
  intro f
  induction f with
  | zero =>
    intro c hc
    show c = -1 ∨ _
    rcases hc with q | q
    · exact Or.inl q
    · exact Or.inr ⟨q.1, q.2.1, q.2.2, fun z => by omega⟩
  | succ f ih =>
    intro c hc
    unfold bsF
    split
    · rename_i h
      rcases hc with q | q
      · exact Or.inl q
      · exact Or.inr ⟨q.1, q.2.1, q.2.2, fun _ => by omega⟩
    · rename_i h
      have c0 : 0 ≤ c ∧ c < π 0 0 := by omega
      have r := lstI_rng π σ c (π 0 0).toNat
      have r' : leastIn π σ c = -1 ∨ (0 ≤ leastIn π σ c ∧ leastIn π σ c < π 0 0 ∧ 0 < hel π σ (leastIn π σ c)) := by
        rcases r with q | q
        · exact Or.inl q
        · exact Or.inr ⟨q.1, by unfold leastIn; omega, q.2.2.2⟩
      rcases ih _ r' with q | q
      · exact Or.inl q
      · refine Or.inr ⟨q.1, q.2.1, q.2.2.1, fun z => q.2.2.2 ?_⟩
        rcases r with y | y
        · exfalso
          have e : leastIn π σ c = -1 := y
          rw [e] at q
          have : ∀ f, bsF π σ f (-1) = -1 := by
            intro f
            cases f with
            | zero => rfl
            | succ f => unfold bsF; rw [if_pos (Or.inl rfl)]
          rw [this] at q
          omega
        · have hl : leastIn π σ c = lstI π σ c (π 0 0).toNat := rfl
          rw [hl]
          rcases ht.2.2 _ y.1 (by omega) with w | w
          · rw [y.2.2.1] at w; have := ht.2.1; omega
          · rw [y.2.2.1] at w; omega
theorem byShareA_rng {π : PL} {σ : ST} (ht : treeOK π) : byShareA π σ = -1 ∨ (0 ≤ byShareA π σ ∧ byShareA π σ < π 0 0 ∧ 0 < hel π σ (byShareA π σ) ∧ kids π (byShareA π σ) = 0) := by
  have r := lstI_rng π σ 12 (π 0 0).toNat
  have hl : leastIn π σ 12 = lstI π σ 12 (π 0 0).toNat := rfl
  have r' : leastIn π σ 12 = -1 ∨ (0 ≤ leastIn π σ 12 ∧ leastIn π σ 12 < π 0 0 ∧ 0 < hel π σ (leastIn π σ 12)) := by
    rcases r with q | q
    · exact Or.inl q
    · exact Or.inr ⟨by omega, by omega, q.2.2.2⟩
  rcases bsF_rng ht 13 _ r' with q | q
  · exact Or.inl q
  · refine Or.inr ⟨q.1, q.2.1, q.2.2.1, q.2.2.2 ?_⟩
    have := ht.2.1
    omega
theorem chooseA_inv {π : PL} {K : Int} {σ : ST} (ht : treeOK π) (h : AInv π (K + 8) σ) (hT : σ 0 0 0 + 1 ≤ 2700) (hb : σ 0 1 0 = 0) : AInv π K (tickA (chooseA π σ)) := by
  unfold chooseA
  split
  · rename_i q
    rcases bgA_rng σ (π 0 0).toNat with r | r
    · exact absurd r q
    · exact sendA_inv ht h hT hb r.1 (by omega) (Or.inr rfl) r.2.2.1
  · split
    · exact tickA_inv h hT
    · rename_i q
      rcases byShareA_rng (σ := σ) ht with r | r
      · exact absurd r q
      · exact sendA_inv ht h hT hb r.1 r.2.1 (Or.inl rfl) (by rw [← hel_leaf (σ := σ) ht r.1 r.2.1 r.2.2.2]; exact r.2.2.1)
theorem tellsA_inv {π : PL} {K : Int} {σ : ST} (hp : PlanOK π) (h : AInv π K σ) : ∀ m : Nat, (m : Int) ≤ π 0 1 → AInv π (K + m) (tellsA π m σ) ∧ tellsA π m σ 0 = σ 0 ∧ tellsA π m σ 8 = σ 8 := by
  intro m
  induction m with
  | zero => intro _; exact ⟨h.mono (by omega), rfl, rfl⟩
  | succ m ih =>
    intro hm
    obtain ⟨i1, i2, i3⟩ := ih (by omega)
    obtain ⟨p1, p2, p3⟩ := hp
    obtain ⟨⟨q1, q2⟩, q3⟩ := p3 m (by omega) (by omega)
    have sz := i1.2.2.2.2.2.2.2.2.1 m (by omega) (by omega)
    have acc0 : ∀ k, k ≠ 3 → k ≠ 4 → k ≠ 5 → k ≠ 6 → k ≠ 7 → k ≠ 12 → k ≠ 13 → acceptA π (tellsA π m σ) (π 2 m) (tellsA π m σ 8 m 0) k = tellsA π m σ k := by
      intro k k3 k4 k5 k6 k7 k12 k13
      unfold acceptA
      split
      · rw [up_k k5]
      · rw [climbW_k k3 k4 k12 k13, pushA_k k6 k7]
    unfold tellsA tellA
    by_cases t : tellsNow π (tellsA π m σ) m
    · rw [if_pos t]
      refine ⟨(acceptA_inv p1 i1 q1.1 q1.2 q2 sz).mono (by omega), ?_, ?_⟩
      · rw [acc0 0 (by decide) (by decide) (by decide) (by decide) (by decide) (by decide) (by decide), i2]
      · rw [acc0 8 (by decide) (by decide) (by decide) (by decide) (by decide) (by decide) (by decide), i3]
    · rw [if_neg t]
      exact ⟨i1.mono (by omega), i2, i3⟩
theorem unitA_inv {π : PL} {K : Int} {σ : ST} (hp : PlanOK π) (h : AInv π K σ) (hT : σ 0 0 0 + 1 ≤ 2700) : AInv π K (unitA π σ) := by
  obtain ⟨i1, i2, i3⟩ := tellsA_inv hp h (π 0 1).toNat (by have := hp.2.1; omega)
  have i1' : AInv π (K + 8) (tellsA π (π 0 1).toNat σ) := i1.mono (by have := hp.2.1; omega)
  unfold unitA midA
  split
  · rename_i q
    exact chooseA_inv hp.1 i1' (by rw [i2]; exact hT) q
  · exact tickA_inv i1' (by rw [i2]; exact hT)
