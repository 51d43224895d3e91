/-! storms: what does not look at which flows are stopped -/
def u5 (v : Int) (σ : ST) : ST := up σ 0 5 0 v
theorem u5_k {v : Int} {σ : ST} {k : Nat} (h : k ≠ 0) : u5 v σ k = σ k := up_k h
theorem u5_0 {v : Int} {σ : ST} {i : Int} (h : i ≠ 5) : u5 v σ 0 i = σ 0 i := up_i h
theorem u5_up {v w : Int} {σ : ST} {k : Nat} {i j : Int} (h : ¬ (k = 0 ∧ i = 5)) : up (u5 v σ) k i j w = u5 v (up σ k i j w) := by
  unfold u5
  funext k' i' j'
  unfold up upr
  by_cases a : k' = k
  · by_cases b : i' = i
    · by_cases c : k' = 0
      · by_cases d : i' = 5
        · exact absurd ⟨by omega, by omega⟩ h
        · simp [a, b, c, d]
          have : ¬ i = 5 := by omega
          have : k = 0 := by omega
          simp [*]
      · have : ¬ k = 0 := by omega
        simp [a, b, this]
    · by_cases c : k' = 0 <;> by_cases d : i' = 5 <;> simp_all
  · by_cases c : k' = 0 <;> by_cases d : i' = 5 <;> simp_all
theorem u5_upr {v : Int} {σ : ST} {k : Nat} {i : Int} {g : Int → Int} (h : k ≠ 0) : upr (u5 v σ) k i g = u5 v (upr σ k i g) := by
  unfold u5
  funext k' i' j'
  unfold up upr
  by_cases a : k' = k
  · have : ¬ k' = 0 := by omega
    simp [a, h]
  · by_cases c : k' = 0 <;> by_cases d : i' = 5 <;> simp_all
theorem u5_lay {v : Int} {σ : ST} {s x y : Int} : layA (u5 v σ) s x y = u5 v (layA σ s x y) := by
  unfold layA
  rw [u5_k (k := 9) (by decide), u5_k (k := 10) (by decide), u5_k (k := 11) (by decide), u5_k (k := 12) (by decide), u5_k (k := 13) (by decide)]
  split
  · rfl
  · rw [u5_upr (by decide), u5_upr (by decide)]
theorem u5_vir {π : PL} {v : Int} {σ : ST} {c w : Int} : virA π (u5 v σ) c w = u5 v (virA π σ c w) := by
  unfold virA
  rw [u5_k (k := 4) (by decide), u5_up (by omega), u5_up (by omega)]
theorem u5_hel {π : PL} {v : Int} {σ : ST} {b : Int} : hel π (u5 v σ) b = hel π σ b := hel_same (u5_k (by decide))
theorem u5_start {π : PL} {v : Int} {σ : ST} {c : Int} : startA π (u5 v σ) c = startA π σ c := by
  unfold startA
  rw [(grtV_cg (u5_k (v := v) (σ := σ) (k := 3) (by decide)) (u5_k (k := 6) (by decide)) _).1, (grtV_cg (u5_k (v := v) (σ := σ) (k := 3) (by decide)) (u5_k (k := 6) (by decide)) _).2, u5_k (k := 3) (by decide), u5_k (k := 4) (by decide)]
theorem u5_wake {π : PL} {v : Int} {σ : ST} {c : Int} : wakeA π (u5 v σ) c = u5 v (wakeA π σ c) := by
  unfold wakeA
  rw [u5_start, u5_vir, u5_lay, u5_0 (by decide), u5_lay, u5_lay, u5_k (k := 1) (by decide), u5_k (k := 2) (by decide)]
theorem u5_climb {π : PL} {v : Int} {σ0 : ST} : ∀ (f : Nat) (τ : ST) (a : Int), climbW π (u5 v σ0) f (u5 v τ) a = u5 v (climbW π σ0 f τ a) := by
  intro f
  induction f with
  | zero => intro τ a; rfl
  | succ f ih =>
    intro τ a
    show (if a = 12 then u5 v τ else climbW π (u5 v σ0) f (if hel π (u5 v σ0) a = 0 then wakeA π (u5 v τ) a else u5 v τ) (π 1 a)) = u5 v (if a = 12 then τ else climbW π σ0 f (if hel π σ0 a = 0 then wakeA π τ a else τ) (π 1 a))
    rw [u5_hel, u5_wake]
    by_cases c : a = 12
    · rw [if_pos c, if_pos c]
    · rw [if_neg c, if_neg c]
      by_cases d : hel π σ0 a = 0
      · rw [if_pos d, if_pos d, ih]
      · rw [if_neg d, if_neg d, ih]
theorem u5_push {v : Int} {σ : ST} {l z : Int} : pushA (u5 v σ) l z = u5 v (pushA σ l z) := by
  unfold pushA
  rw [u5_k (k := 6) (by decide), u5_up (by omega), u5_up (by omega)]
theorem u5_acc {π : PL} {v : Int} {σ : ST} {l z : Int} : acceptA π (u5 v σ) l z = u5 v (acceptA π σ l z) := by
  unfold acceptA
  rw [u5_k (k := 6) (by decide), u5_k (k := 5) (by decide), u5_up (by omega), u5_push, u5_climb]
  split <;> rfl
theorem u5_lstK {π : PL} {v : Int} {σ : ST} {g g' : Int → Int} {c : Int} (h : ∀ m : Nat, g m = g' m) : ∀ m : Nat, lstK π (u5 v σ) g c m = lstK π σ g' c m := by
  intro m
  induction m with
  | zero => rfl
  | succ m ih =>
    show (if π 1 m = c ∧ 0 < hel π (u5 v σ) m then _ else _) = (if π 1 m = c ∧ 0 < hel π σ m then _ else _)
    rw [u5_hel, ih, h m]
theorem u5_fitF {π : PL} {v : Int} {σ : ST} : ∀ (f : Nat) (c : Int), fitF π (u5 v σ) f c = fitF π σ f c := by
  intro f
  induction f with
  | zero => intro c; rfl
  | succ f ih =>
    intro c
    show max (ownF (u5 v σ) c) (lstK π (u5 v σ) (fitF π (u5 v σ) f) c (π 0 0).toNat) = max (ownF σ c) (lstK π σ (fitF π σ f) c (π 0 0).toNat)
    rw [u5_lstK (fun m => ih m)]
    unfold ownF
    rw [u5_k (k := 11) (by decide), u5_k (k := 12) (by decide), u5_k (k := 1) (by decide)]
theorem u5_bg {v : Int} {σ : ST} : ∀ m : Nat, bgA (u5 v σ) m = bgA σ m := by
  intro m
  induction m with
  | zero => rfl
  | succ m ih =>
    unfold bgA eligA ddlA
    rw [ih, u5_k (k := 6) (by decide), u5_k (k := 11) (by decide), u5_k (k := 13) (by decide), u5_k (k := 12) (by decide), u5_k (k := 2) (by decide), u5_k (k := 7) (by decide), u5_0 (i := 0) (by decide)]
theorem u5_lstI {π : PL} {v : Int} {σ : ST} {i : Int} : ∀ m : Nat, lstI π (u5 v σ) i m = lstI π σ i m := by
  intro m
  induction m with
  | zero => rfl
  | succ m ih =>
    have e : fitA π (u5 v σ) m = fitA π σ m := u5_fitF 13 m
    unfold lstI
    rw [ih, u5_hel, e, u5_0 (i := 0) (by decide), u5_k (k := 3) (by decide)]
theorem u5_bsF {π : PL} {v : Int} {σ : ST} : ∀ (f : Nat) (c : Int), bsF π (u5 v σ) f c = bsF π σ f c := by
  intro f
  induction f with
  | zero => intro c; rfl
  | succ f ih =>
    intro c
    have e : leastIn π (u5 v σ) c = leastIn π σ c := u5_lstI _
    show (if _ then _ else bsF π (u5 v σ) f (leastIn π (u5 v σ) c)) = (if _ then _ else bsF π σ f (leastIn π σ c))
    rw [e, ih]
theorem u5_step {π : PL} {v z : Int} {τ : ST} {a : Int} : stepS π z (u5 v τ) a = u5 v (stepS π z τ a) := by
  unfold stepS
  rw [u5_k (k := 1) (by decide), u5_k (k := 12) (by decide), u5_up (by omega), u5_vir]
theorem u5_climbS {π : PL} {v z : Int} : ∀ (f : Nat) (τ : ST) (a : Int), climbS π z f (u5 v τ) a = u5 v (climbS π z f τ a) := by
  intro f
  induction f with
  | zero => intro τ a; rfl
  | succ f ih =>
    intro τ a
    show (if a = 12 then u5 v τ else climbS π z f (stepS π z (u5 v τ) a) (π 1 a)) = u5 v (if a = 12 then τ else climbS π z f (stepS π z τ a) (π 1 a))
    rw [u5_step, ih]
    split <;> rfl
theorem u5_pop {v : Int} {σ : ST} {l : Int} : popA (u5 v σ) l = u5 v (popA σ l) := by
  unfold popA
  rw [u5_k (k := 6) (by decide), u5_k (k := 7) (by decide), u5_upr (by decide), u5_up (by omega)]
theorem u5_send {π : PL} {v : Int} {σ : ST} {l g : Int} : sendA π (u5 v σ) l g = u5 v (sendA π σ l g) := by
  unfold sendA
  rw [u5_pop, u5_k (k := 7) (by decide), u5_k (k := 2) (by decide), u5_0 (i := 3) (by decide), u5_0 (i := 2) (by decide), u5_up (by omega), u5_up (by omega), u5_climbS, u5_up (by omega), u5_up (by omega), u5_up (by omega)]
theorem u5_mid {π : PL} {v : Int} {σ : ST} : midA π (u5 v σ) = u5 v (midA π σ) := by
  have e1 : byShareA π (u5 v σ) = byShareA π σ := by
    have e : leastIn π (u5 v σ) 12 = leastIn π σ 12 := u5_lstI _
    unfold byShareA
    rw [e, u5_bsF]
  unfold midA chooseA
  rw [u5_0 (i := 1) (by decide), u5_bg, e1, u5_send, u5_send]
  split
  · split
    · rfl
    · split <;> rfl
  · rfl
theorem u5_tick {v : Int} {σ : ST} : tickA (u5 v σ) = u5 v (tickA σ) := by
  unfold tickA
  rw [u5_0 (i := 1) (by decide), u5_0 (i := 0) (by decide), u5_up (by omega), u5_up (by omega)]
/-- another set of stopped flows, that tells all flows the same but one -/
theorem u5_tells {π : PL} {v w : Int} {σ : ST} (hv : ∀ f : Nat, (f : Int) < π 0 1 → (f : Int) ≠ w → (tellsNow π (u5 v σ) f ↔ tellsNow π σ f)) (hw : ∀ f : Nat, (f : Int) < π 0 1 → (f : Int) = w → ¬ tellsNow π (u5 v σ) f) : ∀ m : Nat, (m : Int) ≤ π 0 1 → tellsA π m (u5 v σ) = u5 v (tellsW π w m σ) := by
  intro m
  induction m with
  | zero => intro _; rfl
  | succ m ih =>
    intro hm
    show tellA π (tellsA π m (u5 v σ)) m = u5 v (tellW π w (tellsW π w m σ) m)
    have e0 : tellsA π m (u5 v σ) 0 = u5 v σ 0 := tellsA_0 (Or.inl rfl) m
    have e1 : tellsW π w m σ 0 = σ 0 := tellsW_0 (Or.inl rfl) m
    have t0 : tellsNow π (tellsA π m (u5 v σ)) m ↔ tellsNow π (u5 v σ) m := tellsNow_0 e0
    have t1 : tellsNow π (tellsW π w m σ) m ↔ tellsNow π σ m := tellsNow_0 e1
    rw [ih (by omega)] at t0
    rw [ih (by omega)]
    unfold tellW tellA
    by_cases c : (m : Int) = w
    · rw [if_pos c, if_neg (fun u => hw m (by omega) c (t0.mp u))]
    · rw [if_neg c]
      have h := hv m (by omega) c
      by_cases d : tellsNow π σ m
      · rw [if_pos (t0.mpr (h.mpr d)), if_pos (t1.mpr d), u5_acc, u5_k (k := 8) (by decide)]
      · rw [if_neg (fun u => d (h.mp (t0.mp u))), if_neg (fun u => d (t1.mp u))]
theorem u5_unit {π : PL} {v w : Int} {σ : ST} (n0 : 0 ≤ π 0 1) (hv : ∀ f : Nat, (f : Int) < π 0 1 → (f : Int) ≠ w → (tellsNow π (u5 v σ) f ↔ tellsNow π σ f)) (hw : ∀ f : Nat, (f : Int) < π 0 1 → (f : Int) = w → ¬ tellsNow π (u5 v σ) f) : unitA π (u5 v σ) = u5 v (unitW π w σ) := by
  unfold unitA unitW
  rw [u5_tells hv hw _ (by omega), u5_mid, u5_tick]
theorem u5_u5 {v w : Int} {σ : ST} : u5 v (u5 w σ) = u5 v σ := by
  unfold u5
  funext k i j
  unfold up upr
  by_cases a : k = 0 <;> by_cases b : i = 5 <;> by_cases c : j = 0 <;> simp_all
theorem u5_self {σ : ST} : u5 (σ 0 5 0) σ = σ := by
  unfold u5
  funext k i j
  by_cases q : k = 0 ∧ i = 5 ∧ j = 0
  · obtain ⟨q1, q2, q3⟩ := q
    subst q1; subst q2; subst q3
    rw [up_eq]
  · rw [up_kj q]
/-- bits of what is stopped -/
theorem or_bits : ∀ s : Nat, s < 256 → ∀ f : Nat, f < 8 → (0 ≤ bOr s (bShl 1 f) ∧ bOr s (bShl 1 f) < 256) ∧ bOr s (bShl 0 f) = s ∧ ∀ g : Nat, g < 8 → bAnd (bShr (bOr s (bShl 1 f)) g) 1 = if g = f then 1 else bAnd (bShr s g) 1 := by decide +kernel
theorem goZ_no {π : PL} {z s n : Int} {ρ : ST} (h : ¬ tellsNow π ρ z) (d : Nat) : goZ π z s (d + 1) ρ n = goZ π z s d (unitA π ρ) n := by
  show goZ π z s d (unitW π (suppW π ρ z s n) ρ) (n + toldN π ρ z) = _
  have e1 : suppW π ρ z s n = -1 := by unfold suppW; rw [if_neg (fun u => h u.1)]
  have e2 : toldN π ρ z = 0 := by unfold toldN; rw [if_neg (fun u => h u.2.2)]
  rw [e1, e2, unitW_none, Int.add_zero]
theorem goZ_skip {π : PL} {z s n : Int} (d : Nat) : ∀ (u : Nat) (ρ : ST), (∀ j : Nat, j < u → ¬ tellsNow π (goA π j ρ) z) → goZ π z s (u + d) ρ n = goZ π z s d (goA π u ρ) n := by
  intro u
  induction u with
  | zero => intro ρ _; rw [Nat.zero_add]; rfl
  | succ u ih =>
    intro ρ h
    have h0 : ¬ tellsNow π ρ z := h 0 (by omega)
    rw [show u + 1 + d = (u + d) + 1 by omega, goZ_no h0]
    exact ih (unitA π ρ) (fun j hj => h (j + 1) (by omega))
theorem goZ_far {π : PL} {z s : Int} : ∀ (d : Nat) (ρ : ST) (n : Int), (∀ n', n ≤ n' → n' ≤ 4 → bAnd (bShr s n') 1 = 0) → goZ π z s d ρ n = goA π d ρ := by
  intro d
  induction d with
  | zero => intro ρ n _; rfl
  | succ d ih =>
    intro ρ n h
    have e1 : suppW π ρ z s n = -1 := by
      unfold suppW
      rw [if_neg (fun u => u.2.2 (h n (Int.le_refl _) u.2.1))]
    have t := toldN_rng (π := π) (σ := ρ) (z := z)
    show goZ π z s d (unitW π (suppW π ρ z s n) ρ) (n + toldN π ρ z) = goA π d (unitA π ρ)
    rw [e1, unitW_none]
    exact ih _ _ (fun n' h1 h2 => h n' (by omega) h2)
/-- a unit in which the flow would be told -/
theorem goZ_tell {π : PL} {z s n : Int} {ρ : ST} (hp : PlanOK π) (z0 : 0 ≤ z) (z1 : z < π 0 1) (h : tellsNow π ρ z) (hn : n ≤ 4) (s5 : 0 ≤ ρ 0 5 0 ∧ ρ 0 5 0 < 256) (hb : bAnd (bShr s n) 1 = 0 ∨ bAnd (bShr s n) 1 = 1) (d : Nat) :
    goZ π z s (d + 1) ρ n = goZ π z s d (u5 (ρ 0 5 0) (unitA π (u5 (bOr (ρ 0 5 0) (bShl (bAnd (bShr s n) 1) z)) ρ))) (n + 1) := by
  have n8 := hp.2.1
  have e2 : toldN π ρ z = 1 := by unfold toldN; rw [if_pos ⟨z0, z1, h⟩]
  show goZ π z s d (unitW π (suppW π ρ z s n) ρ) (n + toldN π ρ z) = _
  rw [e2]
  have ob := or_bits (ρ 0 5 0).toNat (by omega) z.toNat (by omega)
  rw [Int.toNat_of_nonneg s5.1, Int.toNat_of_nonneg z0] at ob
  have back : ∀ w : Int, (unitW π w ρ) 0 5 0 = ρ 0 5 0 := by
    intro w
    have t0 : tellsW π w (π 0 1).toNat ρ 0 = ρ 0 := tellsW_0 (Or.inl rfl) _
    unfold unitW
    rw [tickA_0 (by decide) (by decide)]
    unfold midA
    split
    · rw [(chooseA_0 hp.1).2.1, t0]
    · rw [t0]
  congr 1
  rcases hb with b | b
  · have e1 : suppW π ρ z s n = -1 := by unfold suppW; rw [if_neg (fun u => u.2.2 b)]
    rw [e1, b, ob.2.1, u5_self]
    have := back (-1)
    rw [← this, unitW_none, u5_self]
  · have e1 : suppW π ρ z s n = z := by unfold suppW; rw [if_pos ⟨h, hn, by omega⟩]
    rw [e1, b, u5_unit (w := z) (by omega) (fun f hf hne => ?_) (fun f hf he => ?_), u5_u5]
    · have := back z
      rw [← this, u5_self]
    · have g := ob.2.2 f (by omega)
      rw [if_neg (by omega)] at g
      unfold tellsNow
      rw [show u5 (bOr (ρ 0 5 0) (bShl 1 z)) ρ 0 5 0 = bOr (ρ 0 5 0) (bShl 1 z) from up_eq, u5_0 (i := 0) (by decide), g]
    · intro u
      have g := ob.2.2 f (by omega)
      rw [if_pos (by omega)] at g
      have u1 := u.1
      rw [show u5 (bOr (ρ 0 5 0) (bShl 1 z)) ρ 0 5 0 = bOr (ρ 0 5 0) (bShl 1 z) from up_eq, g] at u1
      omega
