theorem choose_none {π : PL} {K : Int} {σ : ST} (inv : AInv π K σ) (h : hel π σ 12 = 0) (ht : treeOK π) : chooseA π σ = σ := by
  have q0 : ∀ k, 0 ≤ k → k < π 0 0 → σ 6 k 0 = 0 := by
    intro k k0 k1
    have r := inv.qln k k0 k1
    by_cases z : 0 < σ 6 k 0
    · have := (hel_pos (π := π) (σ := σ) (b := 12) (fun k k0 k1 => (inv.qln k k0 k1).1)).mpr ⟨k, k0, k1, inCh_all ht k0 k1, z⟩
      omega
    · omega
  have hz : ∀ b, hel π σ b = 0 := by
    intro b
    have r := inv.hel_rng ht b
    by_cases z : 0 < hel π σ b
    · obtain ⟨k, k0, k1, k2, k3⟩ := (hel_pos (π := π) (σ := σ) (b := b) (fun k k0 k1 => (inv.qln k k0 k1).1)).mp z
      have := q0 k k0 k1
      omega
    · omega
  have b1 : bgA σ (π 0 0).toNat = -1 := by
    rcases bgA_rng σ (π 0 0).toNat with r | r
    · exact r
    · have := q0 _ r.1 (by omega)
      omega
  have b2 : byShareA π σ = -1 := by
    rcases byShareA_rng (σ := σ) ht with r | r
    · exact r
    · have := hz (byShareA π σ)
      omega
  unfold chooseA
  rw [if_neg (fun z => z b1), if_pos b2]
theorem tellsA_none {π : PL} {σ : ST} (h : ∀ f, 0 ≤ f → f < π 0 1 → ¬ tellsNow π σ f) : ∀ m : Nat, (m : Int) ≤ π 0 1 → tellsA π m σ = σ := by
  intro m
  induction m with
  | zero => intro _; rfl
  | succ m ih =>
    intro hm
    show tellA π (tellsA π m σ) m = σ
    rw [ih (by omega)]
    unfold tellA
    rw [if_neg (h m (by omega) (by omega))]
theorem unit_quiet {π : PL} {K : Int} {σ : ST} (hp : PlanOK π) (inv : AInv π K σ) (h : ∀ f, 0 ≤ f → f < π 0 1 → ¬ tellsNow π σ f) (hb : hel π σ 12 = 0 ∨ 0 < σ 0 1 0) : unitA π σ = tickA σ := by
  unfold unitA
  rw [tellsA_none h _ (by have := hp.2.1; omega)]
  unfold midA
  split
  · rename_i q
    rw [choose_none inv (by omega) hp.1]
  · rfl
theorem chooseA_0 {π : PL} {σ : ST} (ht : treeOK π) : chooseA π σ 0 0 0 = σ 0 0 0 ∧ chooseA π σ 0 5 0 = σ 0 5 0 ∧ (∀ k, k = 5 ∨ 8 ≤ k → chooseA π σ k = σ k) := by
  unfold chooseA
  split
  · rename_i q
    rcases bgA_rng σ (π 0 0).toNat with r | r
    · exact absurd r q
    · have s := sendA_all (σ := σ) (g := 1) ht r.1 (by omega)
      exact ⟨s.1.1, s.1.2.2.2.2.2, s.2.1⟩
  · split
    · exact ⟨rfl, rfl, fun _ _ => rfl⟩
    · rename_i q
      rcases byShareA_rng (σ := σ) ht with r | r
      · exact absurd r q
      · have s := sendA_all (σ := σ) (g := 0) ht r.1 r.2.1
        exact ⟨s.1.1, s.1.2.2.2.2.2, s.2.1⟩
theorem unitA_time {π : PL} {K : Int} {σ : ST} (hp : PlanOK π) (inv : AInv π K σ) : unitA π σ 0 0 0 = σ 0 0 0 + 1 ∧ unitA π σ 0 5 0 = σ 0 5 0 ∧ unitA π σ 8 = σ 8 := by
  obtain ⟨-, i2, i3⟩ := tellsA_inv hp inv (π 0 1).toNat (by have := hp.2.1; omega)
  have c := chooseA_0 (σ := tellsA π (π 0 1).toNat σ) hp.1
  unfold unitA midA
  rw [tickA_t, tickA_0 (i := 5) (by decide) (by decide), tickA_k (k := 8) (by decide)]
  split
  · rw [c.1, c.2.1, c.2.2 8 (by omega), i2, i3]; exact ⟨rfl, rfl, rfl⟩
  · rw [i2, i3]; exact ⟨rfl, rfl, rfl⟩
theorem goA_inv {π : PL} {K : Int} (hp : PlanOK π) : ∀ (n : Nat) {σ : ST}, AInv π K σ → σ 0 0 0 + n ≤ 2700 → AInv π K (goA π n σ) ∧ goA π n σ 0 0 0 = σ 0 0 0 + n ∧ goA π n σ 0 5 0 = σ 0 5 0 ∧ goA π n σ 8 = σ 8 := by
  intro n
  induction n with
  | zero => intro σ inv _; exact ⟨inv, by show σ 0 0 0 = σ 0 0 0 + 0; omega, rfl, rfl⟩
  | succ n ih =>
    intro σ inv hT
    have t := unitA_time hp inv
    obtain ⟨i1, i2, i3, i4⟩ := ih (unitA_inv hp inv (by omega)) (by rw [t.1]; omega)
    show AInv π K (goA π n (unitA π σ)) ∧ goA π n (unitA π σ) 0 0 0 = _ ∧ goA π n (unitA π σ) 0 5 0 = _ ∧ goA π n (unitA π σ) 8 = _
    rw [i2, i3, i4, t.1, t.2.1, t.2.2]
    exact ⟨i1, by omega, rfl, rfl⟩
theorem goA_add {π : PL} : ∀ (n m : Nat) (σ : ST), goA π (n + m) σ = goA π m (goA π n σ) := by
  intro n
  induction n with
  | zero => intro m σ; rw [Nat.zero_add]; rfl
  | succ n ih => intro m σ; rw [show n + 1 + m = (n + m) + 1 by omega]; exact ih m (unitA π σ)
theorem goA_succ {π : PL} (n : Nat) (σ : ST) : goA π (n + 1) σ = unitA π (goA π n σ) := goA_add n 1 σ
def skipA (σ : ST) (q : Int) : ST := up (up σ 0 1 0 (max 0 (σ 0 1 0 - q))) 0 0 0 (σ 0 0 0 + q)
theorem skipA_k {σ : ST} {q : Int} {k : Nat} (h : k ≠ 0) : skipA σ q k = σ k := by unfold skipA; rw [up_k h, up_k h]
theorem skipA_0 {σ : ST} {q i : Int} (h0 : i ≠ 0) (h1 : i ≠ 1) : skipA σ q 0 i = σ 0 i := by unfold skipA; rw [up_i h0, up_i h1]
theorem skipA_t {σ : ST} {q : Int} : skipA σ q 0 0 0 = σ 0 0 0 + q := by unfold skipA; rw [up_eq]
theorem skipA_b {σ : ST} {q : Int} : skipA σ q 0 1 0 = max 0 (σ 0 1 0 - q) := by unfold skipA; rw [up_i (by decide), up_eq]
theorem tickA_j {σ : ST} {k : Nat} {i j : Int} (hj : j ≠ 0) : tickA σ k i j = σ k i j := by
  unfold tickA; rw [up_kj (fun z => hj z.2.2), up_kj (fun z => hj z.2.2)]
theorem skipA_j {σ : ST} {q : Int} {k : Nat} {i j : Int} (hj : j ≠ 0) : skipA σ q k i j = σ k i j := by
  unfold skipA; rw [up_kj (fun z => hj z.2.2), up_kj (fun z => hj z.2.2)]
theorem skipA_tick {σ : ST} {q : Int} (hq : 0 ≤ q) (hb : 0 ≤ σ 0 1 0) : tickA (skipA σ q) = skipA σ (q + 1) := by
  funext k i j
  by_cases j0 : j = 0
  · subst j0
    by_cases k0 : k = 0
    · subst k0
      by_cases i0 : i = 0
      · subst i0; rw [tickA_t, skipA_t, skipA_t]; omega
      · by_cases i1 : i = 1
        · subst i1; rw [tickA_b, skipA_b, skipA_b]; split <;> omega
        · rw [tickA_0 i0 i1, skipA_0 i0 i1, skipA_0 i0 i1]
    · rw [tickA_k k0, skipA_k k0, skipA_k k0]
  · rw [tickA_j j0, skipA_j j0, skipA_j j0]
theorem skipA_zero {σ : ST} (hb : 0 ≤ σ 0 1 0) : skipA σ 0 = σ := by
  funext k i j
  by_cases k0 : k = 0
  · subst k0
    unfold skipA
    by_cases i0 : i = 0
    · subst i0; rw [up_ji]
      by_cases j0 : j = 0
      · rw [if_pos j0, j0]; omega
      · rw [if_neg j0, up_i (by decide)]
    · rw [up_i i0]
      by_cases i1 : i = 1
      · subst i1; rw [up_ji]
        by_cases j0 : j = 0
        · rw [if_pos j0, j0]; omega
        · rw [if_neg j0]
      · rw [up_i i1]
  · rw [skipA_k k0]
def quietAt (π : PL) (σ : ST) (j : Int) : Prop := (∀ f, 0 ≤ f → f < π 0 1 → ¬ (bAnd (bShr (σ 0 5 0) f) 1 = 0 ∧ (σ 0 0 0 + j) % π 3 f = π 4 f)) ∧ (hel π σ 12 = 0 ∨ j < σ 0 1 0)
theorem skipA_inv {π : PL} {K : Int} {σ : ST} (inv : AInv π K σ) {q : Int} (hq : 0 ≤ q) (hT : σ 0 0 0 + q ≤ 2700) : AInv π K (skipA σ q) := by
  obtain ⟨a1, a2, a3, a4, a5, a6, a7, a8, a9, a10⟩ := inv
  have e : ∀ k, k ≠ 0 → skipA σ q k = σ k := fun k k0 => skipA_k k0
  unfold AInv classOK slotOK
  rw [skipA_0 (i := 2) (by decide) (by decide), skipA_0 (i := 3) (by decide) (by decide), skipA_0 (i := 4) (by decide) (by decide), skipA_0 (i := 5) (by decide) (by decide), skipA_t, skipA_b,
    e 1 (by decide), e 2 (by decide), e 3 (by decide), e 4 (by decide), e 5 (by decide), e 6 (by decide), e 7 (by decide), e 8 (by decide), e 9 (by decide), e 10 (by decide), e 11 (by decide), e 12 (by decide), e 13 (by decide)]
  refine ⟨by omega, by omega, by omega, a4, a5, a6, fun b b0 b1 => ?_, a8, a9, fun t t0 t1 => ?_⟩
  · obtain ⟨b1, b2, b3, b4⟩ := a7 b b0 b1
    exact ⟨by omega, b2, by omega, b4⟩
  · have := a10 t t0 t1
    unfold slotOK at this
    obtain ⟨o1, o2, o3, o4⟩ := this
    rw [cur_eq (e 1 (by decide)) (e 2 (by decide))]
    exact ⟨o1, o2, o3, fun q n hn => by have := o4 q n hn; omega⟩
theorem goA_quiet {π : PL} {K : Int} {σ : ST} (hp : PlanOK π) (inv : AInv π K σ) : ∀ (q : Nat), σ 0 0 0 + q ≤ 2700 → (∀ j : Int, 0 ≤ j → j < q → quietAt π σ j) → goA π q σ = skipA σ q := by
  intro q
  induction q with
  | zero => intro _ _; exact (skipA_zero inv.2.1.1).symm
  | succ q ih =>
    intro hT hq
    rw [goA_succ, ih (by omega) (fun j j0 j1 => hq j j0 (by omega))]
    have h := hq q (by omega) (by omega)
    rw [unit_quiet hp (skipA_inv inv (by omega) (by omega)) (fun f f0 f1 => ?_) ?_]
    · exact skipA_tick (by omega) inv.2.1.1
    · rw [hel_same (skipA_k (by decide)), skipA_b]
      rcases h.2 with z | z
      · exact Or.inl z
      · exact Or.inr (by omega)
    · unfold tellsNow
      rw [skipA_t, skipA_0 (by decide) (by decide)]
      exact h.1 f f0 f1
def Unt (π : PL) (f t u : Int) : Prop := (0 ≤ u ∧ u ≤ 1000000) ∧ (∀ j, 0 ≤ j → j < u → (t + j) % π 3 f ≠ π 4 f) ∧ (u < 1000000 → (t + u) % π 3 f = π 4 f)
theorem emod_near {t e j : Int} (he : 0 < e) (h0 : 0 ≤ t % e + j) (h1 : t % e + j < e) : (t + j) % e = t % e + j := by
  rw [← Int.emod_add_emod, Int.emod_eq_of_lt h0 h1]
theorem emod_next {t e j : Int} (he : 0 < e) (h0 : e ≤ t % e + j) (h1 : t % e + j < 2 * e) : (t + j) % e = t % e + j - e := by
  rw [show t + j = (t + (j - e)) + e * 1 by omega, Int.add_mul_emod_self_left, emod_near he (by omega) (by omega)]
  omega
theorem until_c {h : HP} {f t : Int} {π : PL} {P : Int → HP → Prop} (hp : PlanOK π) (pc : PlanC h 1 π) (f0 : 0 ≤ f) (f1 : f < π 0 1) (ht : 0 ≤ t ∧ t < 1000000) (k : ∀ u, Unt π f t u → P u h) : wX8_untilTold 1 f t h P := by
  obtain ⟨p1, p2, p3⟩ := hp
  obtain ⟨q1, q2, q3, q4⟩ := p3 f f0 f1
  obtain ⟨e40, e41, e42, e43⟩ := pc.2.2.2 f f0 f1
  have g0 := Int.emod_nonneg t (b := π 3 f) (by omega)
  have g1 := Int.emod_lt_of_pos t (b := π 3 f) (by omega)
  unfold wX8_untilTold
  rw [e41, e42]
  refine ⟨by omega, by omega, fun c => absurd c (by omega), fun _ => ⟨by omega, by omega, by omega, by omega, fun c => ⟨by omega, by omega, by omega, by omega, ⟨by omega, by omega, fun _ => ⟨by omega, by omega⟩, fun _ => by omega⟩, fun t18 h18 => k t18 ?_⟩, fun c => k _ ⟨by omega, fun j j0 _ => ?_, fun q => by omega⟩⟩⟩
  · by_cases z : π 4 f < t % π 3 f
    · have e := h18.1 z
      refine ⟨by omega, fun j j0 j1 => ?_, fun _ => ?_⟩
      · by_cases y : t % π 3 f + j < π 3 f
        · rw [emod_near (by omega) (by omega) y]; omega
        · rw [emod_next (by omega) (by omega) (by omega)]; omega
      · rw [emod_next (by omega) (by omega) (by omega)]; omega
    · have e := h18.2 z
      refine ⟨by omega, fun j j0 j1 => ?_, fun _ => ?_⟩
      · rw [emod_near (by omega) (by omega) (by omega)]; omega
      · rw [emod_near (by omega) (by omega) (by omega)]; omega
  · have := Int.emod_lt_of_pos (t + j) (b := π 3 f) (by omega)
    omega
theorem bAnd1_all : ∀ x : Int, bAnd x 1 = 0 ∨ bAnd x 1 = 1 := by
  intro x
  unfold bAnd
  have h : ∀ y : Int32, y &&& Int32.ofInt 1 = 0 ∨ y &&& Int32.ofInt 1 = 1 := by
    intro y
    have e : ((y &&& Int32.ofInt 1).toBitVec).toNat = y.toBitVec.toNat % 2 := by
      rw [Int32.toBitVec_and, BitVec.toNat_and]
      exact Nat.and_one_is_mod _
    have l : y.toBitVec.toNat % 2 = 0 ∨ y.toBitVec.toNat % 2 = 1 := by omega
    rcases l with l | l
    · left
      apply Int32.toBitVec_inj.mp
      apply BitVec.eq_of_toNat_eq
      rw [e, l]; rfl
    · right
      apply Int32.toBitVec_inj.mp
      apply BitVec.eq_of_toNat_eq
      rw [e, l]; rfl
  rcases h (Int32.ofInt x) with q | q
  · rw [q]; exact Or.inl rfl
  · rw [q]; exact Or.inr rfl
theorem quiet_c {h : HP} {L K most : Int} {π : PL} {σ : ST} {P : Int → HP → Prop} (x : LX h L π K σ) (hm : 1 ≤ most ∧ most ≤ 3000) (k : ∀ q, 0 ≤ q → q ≤ most → (∀ j, 0 ≤ j → j < q → quietAt π σ j) → P q h) : wX6_quietUnits L most h P := by
  obtain ⟨eh, eh0, eh1⟩ := x.held (c := 12) (Or.inr rfl)
  have tr := x.2.2.1.1
  have br := x.2.2.1.2.1
  have nf := x.1.2.1
  have e81 : h 8 1 1 = π 0 1 := x.2.1.1.2
  have tt : h 6 L 1 = σ 0 0 0 := x.2.2.2.1.1.1
  have tb : h 6 L 2 = σ 0 1 0 := x.2.2.2.1.1.2.1
  have ts : h 6 L 6 = σ 0 5 0 := x.2.2.2.1.1.2.2.2.2.2
  have loop : ∀ (d : Nat) (f q : Int), π 0 1 - f = d → 0 ≤ f → 0 ≤ q → q ≤ most → (∀ j, 0 ≤ j → j < q → (∀ g, 0 ≤ g → g < f → ¬ (bAnd (bShr (σ 0 5 0) g) 1 = 0 ∧ (σ 0 0 0 + j) % π 3 g = π 4 g)) ∧ (hel π σ 12 = 0 ∨ j < σ 0 1 0)) → wX6_quietUnits_48 L most (fun l22 h23 => P l22 h23) (d + 1) q f h := by
    intro d
    induction d with
    | zero =>
      intro f q hd hf q0 q1 hq
      rw [wX6_quietUnits_48, e81]
      exact ⟨by omega, by omega, fun _ => k q q0 q1 (fun j j0 j1 => ⟨fun g g0 g1 => (hq j j0 j1).1 g g0 (by omega), (hq j j0 j1).2⟩), fun c => absurd (by omega) c⟩
    | succ d ih =>
      intro f q hd hf q0 q1 hq
      rw [wX6_quietUnits_48, e81, ts, tt]
      have b1 := bAnd1_all (bShr (σ 0 5 0) f)
      refine ⟨by omega, by omega, fun c => absurd c (by omega), fun _ => ⟨by omega, fun c => ?_, fun c => until_c x.1 x.2.1 hf (by omega) (by omega) (fun u hu => ⟨⟨by have := hu.1; omega, by omega⟩, fun t17 h17 => ?_⟩)⟩⟩
      · unfold wX6_quietUnits_97
        refine ih (f + 1) q (by omega) (by omega) q0 q1 (fun j j0 j1 => ⟨fun g g0 g1 => ?_, (hq j j0 j1).2⟩)
        by_cases z : g = f
        · subst z; exact fun w => c w.1
        · exact (hq j j0 j1).1 g g0 (by omega)
      · have e : t17 = min q u := by
          by_cases z : q ≤ u
          · rw [h17.1 z]; omega
          · rw [h17.2 z]; omega
        have u0 := hu.1
        unfold wX6_quietUnits_97
        refine ih (f + 1) t17 (by omega) (by omega) (by omega) (by omega) (fun j j0 j1 => ⟨fun g g0 g1 => ?_, (hq j j0 (by omega)).2⟩)
        by_cases z : g = f
        · subst z; exact fun w => hu.2.1 j j0 (by omega) w.2
        · exact (hq j j0 (by omega)).1 g g0 (by omega)
  unfold wX6_quietUnits
  rw [eh, tb]
  have rest : (hel π σ 12 = 0 ∨ 0 < σ 0 1 0) → wX6_quietUnits_19 L most P h := by
    intro hb
    unfold wX6_quietUnits_19
    rw [eh, tb]
    refine ⟨⟨by omega, fun _ => ⟨by omega, by omega⟩⟩, fun t6 h6 => ⟨_, loop (π 0 1).toNat 0 t6 (by omega) (Int.le_refl _) ?_ ?_ (fun j j0 j1 => ⟨fun g g0 g1 => by omega, ?_⟩)⟩⟩
    · by_cases z : hel π σ 12 ≤ 0
      · rw [h6.1 z]; omega
      · by_cases y : most ≤ σ 0 1 0
        · rw [(h6.2 z).1 y]; omega
        · rw [(h6.2 z).2 y]; omega
    · by_cases z : hel π σ 12 ≤ 0
      · rw [h6.1 z]; omega
      · by_cases y : most ≤ σ 0 1 0
        · rw [(h6.2 z).1 y]; omega
        · rw [(h6.2 z).2 y]; omega
    · by_cases z : hel π σ 12 ≤ 0
      · exact Or.inl (by omega)
      · right
        by_cases y : most ≤ σ 0 1 0
        · rw [(h6.2 z).1 y] at j1; omega
        · rw [(h6.2 z).2 y] at j1; omega
  refine ⟨by omega, fun c => rest (Or.inl (by omega)), fun c => ⟨by omega, fun c2 => rest (Or.inr (by omega)), fun c2 => k 0 (Int.le_refl _) (by omega) (fun j j0 j1 => by omega)⟩⟩
theorem LineC.num {h : HP} {L v : Int} {π : PL} {σ : ST} (q : LineC h L π σ) (i : Int) (hi : 0 ≤ i ∧ i ≤ 5) : LineC (up h 6 L (i + 1) v) L π (up σ 0 i 0 v) := by
  refine ⟨q.1.num i hi, fun b hb => ?_⟩
  rw [up_k (by decide), q.2 b hb]
  exact (hel_same (by rw [up_k (by decide)])).symm
theorem advance_tail {h : HP} {L most : Int} {π : PL} {σ : ST} {P : HP → Prop} (k : ∀ h', FrL L h h' → LineC h' L π (tickA σ) → P h') (br : 0 ≤ σ 0 1 0 ∧ σ 0 1 0 ≤ 64) (lc : LineC h L π σ) : wX6_advance_153 L most P h := by
  have tt : h 6 L 1 = σ 0 0 0 := lc.1.1.1
  have tb : h 6 L 2 = σ 0 1 0 := lc.1.1.2.1
  unfold wX6_advance_153
  rw [tb]
  refine ⟨by omega, fun t29 h29 h31 e31 h32 e32 => ?_⟩
  have eb : σ 0 1 0 - t29 = if 0 < σ 0 1 0 then σ 0 1 0 - 1 else σ 0 1 0 := by
    by_cases z : σ 0 1 0 ≤ 0
    · rw [h29.1 z, if_neg (by omega)]; omega
    · rw [h29.2 z, if_pos (by omega)]
  rw [eb] at e31
  have l31 : LineC h31 L π (up σ 0 1 0 (if 0 < σ 0 1 0 then σ 0 1 0 - 1 else σ 0 1 0)) := by rw [e31]; exact lc.num 1 (by omega)
  have et : h31 6 L 1 = σ 0 0 0 := by rw [l31.1.1.1, up_i (by decide)]
  rw [et] at e32
  have l32 : LineC h32 L π (tickA σ) := by
    rw [e32]
    exact l31.num 0 (by omega)
  refine k h32 ?_ l32
  rw [e32, e31]
  exact (FrL.up (by unfold lnK; omega)).tr (FrL.up (by unfold lnK; omega))
/-- flow by flow -/
theorem flows_c {h0 : HP} {L most K : Int} {π : PL} {σ : ST} {Ko : HP → Prop} (x : LX h0 L π K σ) (hK : ∀ h', FrL L h0 h' → LineC h' L π (tellsA π (π 0 1).toNat σ) → Ko h') :
    ∀ (d : Nat) (m : Nat) (h' : HP), (π 0 1).toNat - m = d → m ≤ (π 0 1).toNat → FrL L h0 h' → LineC h' L π (tellsA π m σ) → wX6_advance_46 L most Ko (d + 1) m h' := by
  have nf := x.1.2.1
  intro d
  induction d with
  | zero =>
    intro m h' hd hm' f' l'
    have em : m = (π 0 1).toNat := by omega
    subst em
    have e81 : h' 8 1 1 = π 0 1 := (x.2.1.fr f').1.2
    rw [wX6_advance_46, e81]
    exact ⟨by omega, by omega, fun _ => hK h' f' l', fun c => absurd (by omega) c⟩
  | succ d ih =>
    intro m h' hd hm' f' l'
    obtain ⟨i1, i2, i3⟩ := tellsA_inv x.1 x.2.2.1 m (by omega)
    have x' : LX h' L π (K + (m : Nat)) (tellsA π m σ) := ⟨x.1, x.2.1.fr f', i1, l'⟩
    have e81 : h' 8 1 1 = π 0 1 := x'.2.1.1.2
    have es' : h' 6 L 6 = tellsA π m σ 0 5 0 := l'.1.1.2.2.2.2.2
    have et' : h' 6 L 1 = tellsA π m σ 0 0 0 := l'.1.1.1
    have tr1 := i1.1
    obtain ⟨⟨p1, p2⟩, p3⟩ := x.1.2.2 m (by omega) (by omega)
    have b1 := bAnd1_all (bShr (tellsA π m σ 0 5 0) m)
    rw [wX6_advance_46, e81, es', et']
    have stay : ¬ tellsNow π (tellsA π m σ) m → wX6_advance_102 L most m (fun y3 hy => wX6_advance_46 L most Ko (d + 1) y3 hy) h' := by
      intro hn
      unfold wX6_advance_102
      refine ih (m + 1) h' (by omega) (by omega) f' ?_
      show LineC h' L π (tellA π (tellsA π m σ) m)
      unfold tellA
      rw [if_neg hn]
      exact l'
    refine ⟨by omega, by omega, fun c => absurd c (by omega), fun _ => ⟨by omega, fun c1 => stay (fun z => c1 z.1), fun c1 => until_c x.1 x'.2.1 (by omega) (by omega) (by omega) (fun u hu => ⟨by have := hu.1; omega, fun c2 => stay (fun z => ?_), fun c2 => ⟨by omega, by omega, ?_⟩⟩)⟩⟩
    · have u0 := hu.1
      have := hu.2.1 0 (Int.le_refl _) (by omega)
      rw [show tellsA π m σ 0 0 0 + 0 = tellsA π m σ 0 0 0 by omega] at this
      exact this z.2
    · have e40 := (x'.2.1.2.2.2 m (by omega) (by omega)).1
      have e32 : h' 32 L m = tellsA π m σ 8 m 0 := l'.1.2.2.2.1 m (by omega) (by omega)
      have sz := i1.2.2.2.2.2.2.2.2.1 m (by omega) (by omega)
      rw [e40, e32]
      refine accept_c x.1 x'.2.1 i1 l' p1.1 p1.2 p2 sz (fun h2 f2 l2 => ?_)
      unfold wX6_advance_102
      refine ih (m + 1) h2 (by omega) (by omega) (f'.tr f2) ?_
      show LineC h2 L π (tellA π (tellsA π m σ) m)
      unfold tellA
      have tn : tellsNow π (tellsA π m σ) m := by
        refine ⟨c1, ?_⟩
        have := hu.2.2 (by omega)
        rw [c2, show tellsA π m σ 0 0 0 + 0 = tellsA π m σ 0 0 0 by omega] at this
        exact this
      rw [if_pos tn]
      exact l2
theorem advance_c {h : HP} {L most K : Int} {π : PL} {σ : ST} {P : HP → Prop} (x : LX h L π K σ) (hm : 1 ≤ most ∧ σ 0 0 0 + most ≤ 2700)
    (k : ∀ (h' : HP) (n : Nat), FrL L h h' → 1 ≤ n → n ≤ most → LineC h' L π (goA π n σ) → (∀ j : Nat, j + 1 < n → goA π (j + 1) σ = tickA (goA π j σ)) → P h') : wX6_advance L most h P := by
  have nf := x.1.2.1
  have n12 := x.1.1.2.1
  have tr := x.2.2.1.1
  have br := x.2.2.1.2.1
  have inv := x.2.2.1
  unfold wX6_advance
  refine quiet_c x (by omega) (fun q q0 q1 hq h3 e3 => ?_)
  have tt : h 6 L 1 = σ 0 0 0 := x.2.2.2.1.1.1
  rw [tt] at e3
  have l3 : LineC h3 L π (up σ 0 0 0 (σ 0 0 0 + q)) := by rw [e3]; exact x.2.2.2.num 0 (by omega)
  have tb : h3 6 L 2 = σ 0 1 0 := by rw [l3.1.1.2.1, up_i (by decide)]
  rw [tb]
  refine ⟨⟨by omega, by omega⟩, fun t6 h6 h8 e8 => ⟨by omega, by omega, ?_⟩⟩
  have e6 : t6 = max 0 (σ 0 1 0 - q) := by
    by_cases z : σ 0 1 0 ≤ q
    · rw [h6.1 z]; omega
    · rw [h6.2 z]; omega
  have es : up (up σ 0 0 0 (σ 0 0 0 + q)) 0 1 0 t6 = skipA σ q := by
    rw [e6]
    unfold skipA
    funext a b c
    by_cases a0 : a = 0
    · subst a0
      by_cases b0 : b = 0
      · subst b0; rw [up_i (by decide), up_ji, up_ji, up_i (by decide)]
      · rw [up_i b0]
        by_cases b1 : b = 1
        · subst b1; rw [up_ji, up_ji, up_i (by decide)]
        · rw [up_i b1, up_i b1, up_i b0]
    · rw [up_k a0, up_k a0, up_k a0, up_k a0]
  have l8 : LineC h8 L π (skipA σ q) := by
    rw [e8, ← es]
    exact l3.num 1 (by omega)
  have f8 : FrL L h h8 := by rw [e8, e3]; exact (FrL.up (by unfold lnK; omega)).tr (FrL.up (by unfold lnK; omega))
  have gq : ∀ j : Nat, j ≤ q → goA π j σ = skipA σ j := fun j hj => goA_quiet x.1 inv j (by omega) (fun i i0 i1 => hq i i0 (by omega))
  have quietTick : ∀ j : Nat, (j : Int) + 1 ≤ q → goA π (j + 1) σ = tickA (goA π j σ) := by
    intro j hj
    rw [gq j (by omega), gq (j + 1) (by omega), skipA_tick (by omega) br.1]
    rfl
  have qn : ((q.toNat : Nat) : Int) = q := Int.toNat_of_nonneg q0
  refine ⟨fun c => ?_, fun c => ?_⟩
  · have inv1 : AInv π K (skipA σ q) := skipA_inv inv q0 (by omega)
    have x1 : LX h8 L π K (skipA σ q) := ⟨x.1, x.2.1.fr f8, inv1, l8⟩
    have eg : goA π (q.toNat + 1) σ = unitA π (skipA σ q) := by rw [goA_succ, gq q.toNat (by omega), qn]
    have final : ∀ h', FrL L h h' → LineC h' L π (unitA π (skipA σ q)) → P h' := fun h' f l => k h' (q.toNat + 1) f (by omega) (by omega) (by rw [eg]; exact l) (fun j hj => quietTick j (by omega))
    refine ⟨_, flows_c x1 (fun h' f' l' => ?_) (π 0 1).toNat 0 h8 rfl (by omega) (FrL.rf _ _) l8⟩
    obtain ⟨i1, i2, i3⟩ := tellsA_inv x.1 inv1 (π 0 1).toNat (by omega)
    have x' : LX h' L π (K + ((π 0 1).toNat : Nat)) (tellsA π (π 0 1).toNat (skipA σ q)) := ⟨x.1, x1.2.1.fr f', i1, l'⟩
    have eb : h' 6 L 2 = tellsA π (π 0 1).toNat (skipA σ q) 0 1 0 := l'.1.1.2.1
    have bb := i1.2.1
    refine ⟨by omega, fun c1 => ?_, fun c1 => ?_⟩
    · refine advance_tail (fun h2 g2 l2 => final h2 ((f8.tr f').tr g2) ?_) bb l'
      unfold unitA midA
      rw [if_neg (by omega)]
      exact l2
    · obtain ⟨hh, hh0, hh1⟩ := x'.held (c := 12) (Or.inr rfl)
      rw [hh]
      have eu : unitA π (skipA σ q) = tickA (chooseA π (tellsA π (π 0 1).toNat (skipA σ q))) := by
        unfold unitA midA
        rw [if_pos (by omega)]
      refine ⟨by omega, fun c2 => ?_, fun c2 => ?_⟩
      · refine advance_tail (fun h2 g2 l2 => final h2 ((f8.tr f').tr g2) ?_) bb l'
        rw [eu, choose_none i1 (by omega) x.1.1]
        exact l2
      · refine pickD_c x' ?_
        rcases bgA_rng (tellsA π (π 0 1).toNat (skipA σ q)) (π 0 0).toNat with r | r
        · refine ⟨by omega, fun _ => pickS_c x' (fun h2 f2 => ?_), fun c3 => absurd r c3⟩
          have x2 := x'.fr33 f2
          rcases byShareA_rng (σ := tellsA π (π 0 1).toNat (skipA σ q)) x.1.1 with s | s
          · rw [s]
            unfold wX6_send
            refine ⟨by omega, fun c => absurd rfl c, fun _ => advance_tail (fun h4 g4 l4 => final h4 (((f8.tr f').tr f2.frL).tr g4) ?_) bb x2.2.2.2⟩
            rw [eu]
            unfold chooseA
            rw [if_neg (fun z => z r), if_pos s]
            exact l4
          · have sq : 0 < tellsA π (π 0 1).toNat (skipA σ q) 6 (byShareA π (tellsA π (π 0 1).toNat (skipA σ q))) 0 := by rw [← hel_leaf (σ := tellsA π (π 0 1).toNat (skipA σ q)) x.1.1 s.1 s.2.1 s.2.2.2]; exact s.2.2.1
            have sz := (i1.2.2.2.2.2.2.1 _ s.1 s.2.1).2.2.2.2.2.1 0 (Int.le_refl _) sq
            refine send_c x2 s.1 s.2.1 sq (Or.inl rfl) (fun h4 g4 l4 => ?_)
            refine advance_tail (fun h5 g5 l5 => final h5 ((((f8.tr f').tr f2.frL).tr g4).tr g5) ?_) (by rw [(sendA_all (σ := tellsA π (π 0 1).toNat (skipA σ q)) (g := 0) x.1.1 s.1 s.2.1).1.2.1]; omega) l4
            rw [eu]
            unfold chooseA
            rw [if_neg (fun z => z r), if_neg (by omega)]
            exact l5
        · have sz := (i1.2.2.2.2.2.2.1 _ r.1 (by omega)).2.2.2.2.2.1 0 (Int.le_refl _) r.2.2.1
          refine ⟨by omega, fun c3 => by omega, fun _ => ?_⟩
          refine send_c x' r.1 (by omega) r.2.2.1 (Or.inr rfl) (fun h4 g4 l4 => ?_)
          refine advance_tail (fun h5 g5 l5 => final h5 (((f8.tr f').tr g4).tr g5) ?_) (by rw [(sendA_all (σ := tellsA π (π 0 1).toNat (skipA σ q)) (g := 1) x.1.1 r.1 (by omega)).1.2.1]; omega) l4
          rw [eu]
          unfold chooseA
          rw [if_pos (by omega)]
          exact l5
  · have eq : q = most := by omega
    refine k h8 q.toNat f8 (by omega) (by omega) ?_ (fun j hj => quietTick j (by omega))
    rw [gq q.toNat (by omega), qn]
    exact l8
theorem pass_c {h : HP} {L u K : Int} {π : PL} {σ : ST} {P : HP → Prop} (x : LX h L π K σ) (hu : 0 ≤ u ∧ σ 0 0 0 + u ≤ 2700) (k : ∀ h', FrL L h h' → LineC h' L π (goA π u.toNat σ) → P h') : wX6_pass L u h P := by
  have tt : h 6 L 1 = σ 0 0 0 := x.2.2.2.1.1.1
  have tr := x.2.2.1.1
  unfold wX6_pass
  rw [tt]
  have loop : ∀ (d : Nat) (i : Int) (n : Nat) (h' : HP), u - i = d → 0 ≤ i → i ≤ n → n ≤ u → FrL L h h' → LineC h' L π (goA π n σ) → wX6_pass_9 L u (σ 0 0 0 + u) (fun h9 => P h9) (d + 1) i h' := by
    intro d
    induction d with
    | zero =>
      intro i n h' hd hi hn hn2 f l
      rw [wX6_pass_9]
      have e : n = u.toNat := by omega
      exact ⟨by omega, by omega, fun _ => k h' f (by rw [← e]; exact l), fun c => absurd (by omega) c⟩
    | succ d ih =>
      intro i n h' hd hi hn hn2 f l
      obtain ⟨g1, g2, g3, g4⟩ := goA_inv x.1 n x.2.2.1 (by omega)
      have x' : LX h' L π K (goA π n σ) := ⟨x.1, x.2.1.fr f, g1, l⟩
      have et : h' 6 L 1 = σ 0 0 0 + n := by rw [l.1.1.1, g2]
      rw [wX6_pass_9, et]
      refine ⟨by omega, by omega, fun c => absurd c (by omega), fun _ => ⟨by omega, by omega, fun c => ?_, fun c => ?_⟩⟩
      · have e : n = u.toNat := by omega
        exact k h' f (by rw [← e]; exact l)
      · refine advance_c x' (by omega) (fun h2 m f2 m1 m2 l2 _ => ?_)
        exact ih (i + 1) (n + m) h2 (by omega) (by omega) (by omega) (by omega) (f.tr f2) (by rw [goA_add]; exact l2)
  exact ⟨_, loop u.toNat 0 0 h (by omega) (Int.le_refl _) (by omega) (by omega) (FrL.rf _ _) x.2.2.2⟩
