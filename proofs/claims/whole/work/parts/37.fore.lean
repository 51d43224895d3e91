/-! what comes: a run of units with an early end -/
noncomputable def runA {S : Type} (π : PL) (step : S → ST → ST → Sum S Int) (fin : S → Int) : Nat → ST → S → Int
  | 0, _, s => fin s
  | d + 1, σ, s => match step s σ (unitA π σ) with
    | Sum.inl s' => runA π step fin d (unitA π σ) s'
    | Sum.inr v => v
theorem runA_l {S : Type} {π : PL} {step : S → ST → ST → Sum S Int} {fin : S → Int} {d : Nat} {σ : ST} {s s' : S} (h : step s σ (unitA π σ) = Sum.inl s') : runA π step fin (d + 1) σ s = runA π step fin d (unitA π σ) s' := by
  show (match step s σ (unitA π σ) with | Sum.inl s' => runA π step fin d (unitA π σ) s' | Sum.inr v => v) = _
  rw [h]
theorem runA_r {S : Type} {π : PL} {step : S → ST → ST → Sum S Int} {fin : S → Int} {d : Nat} {σ : ST} {s : S} {v : Int} (h : step s σ (unitA π σ) = Sum.inr v) : runA π step fin (d + 1) σ s = v := by
  show (match step s σ (unitA π σ) with | Sum.inl s' => runA π step fin d (unitA π σ) s' | Sum.inr v => v) = _
  rw [h]
theorem goA_skip {π : PL} {ρ : ST} {n : Nat} (hb : 0 ≤ ρ 0 1 0) (h : ∀ j : Nat, j + 1 < n → goA π (j + 1) ρ = tickA (goA π j ρ)) : ∀ q : Nat, q < n → goA π q ρ = skipA ρ q := by
  intro q
  induction q with
  | zero => intro _; rw [show ((0 : Nat) : Int) = 0 by rfl, skipA_zero hb]; rfl
  | succ q ih =>
    intro hq
    rw [h q hq, ih (by omega), skipA_tick (by omega) hb]
    rfl
theorem runA_skip {S : Type} {π : PL} {step : S → ST → ST → Sum S Int} {fin : S → Int} {ρ : ST} {s : S} {n : Nat} (hb : 0 ≤ ρ 0 1 0) (h : ∀ j : Nat, j + 1 < n → goA π (j + 1) ρ = tickA (goA π j ρ)) (hs : ∀ τ : ST, (∀ k, k ≠ 0 → τ k = ρ k) → (∀ i, i ≠ 0 → i ≠ 1 → τ 0 i 0 = ρ 0 i 0) → step s τ (tickA τ) = Sum.inl s) (D : Nat) : ∀ q : Nat, q < n → runA π step fin (q + D) ρ s = runA π step fin D (goA π q ρ) s := by
  intro q
  induction q with
  | zero => intro _; rw [Nat.zero_add]; rfl
  | succ q ih =>
    intro hq
    have ih' := ih (by omega)
    have e := h q hq
    rw [goA_succ] at e
    have gs := goA_skip hb h q (by omega)
    have st : step s (goA π q ρ) (unitA π (goA π q ρ)) = Sum.inl s := by
      rw [e]
      refine hs _ (fun k hk => ?_) (fun i i0 i1 => ?_)
      · rw [gs, skipA_k hk]
      · rw [gs, skipA_0 i0 i1]
    -- one more unit
    have one : ∀ (d : Nat) (a : Nat), runA π step fin (a + (d + 1)) ρ s = runA π step fin (d + 1) (goA π a ρ) s → True := fun _ _ _ => trivial
    clear one
    have gen : ∀ D : Nat, runA π step fin (q + D) ρ s = runA π step fin D (goA π q ρ) s := by
      clear ih ih'
      have key : ∀ (q' : Nat), q' ≤ q → ∀ D : Nat, runA π step fin (q' + D) ρ s = runA π step fin D (goA π q' ρ) s := by
        intro q'
        induction q' with
        | zero => intro _ D; rw [Nat.zero_add]; rfl
        | succ q' ih2 =>
          intro hq' D
          have e2 := h q' (by omega)
          rw [goA_succ] at e2
          have gs2 := goA_skip hb h q' (by omega)
          have st2 : step s (goA π q' ρ) (unitA π (goA π q' ρ)) = Sum.inl s := by
            rw [e2]
            refine hs _ (fun k hk => ?_) (fun i i0 i1 => ?_)
            · rw [gs2, skipA_k hk]
            · rw [gs2, skipA_0 i0 i1]
          rw [show q' + 1 + D = q' + (D + 1) by omega, ih2 (by omega) (D + 1), runA_l st2, goA_succ]
      exact key q (by omega)
    rw [show q + 1 + D = q + (D + 1) by omega, gen (D + 1), runA_l st, goA_succ]
/-- a step of the class: some quiet units and one more -/
theorem runA_adv {S : Type} {π : PL} {step : S → ST → ST → Sum S Int} {fin : S → Int} {ρ : ST} {s : S} {n D : Nat} (hb : 0 ≤ ρ 0 1 0) (h : ∀ j : Nat, j + 1 < n → goA π (j + 1) ρ = tickA (goA π j ρ)) (hs : ∀ τ : ST, (∀ k, k ≠ 0 → τ k = ρ k) → (∀ i, i ≠ 0 → i ≠ 1 → τ 0 i 0 = ρ 0 i 0) → step s τ (tickA τ) = Sum.inl s) (hn : 1 ≤ n) (hD : n ≤ D) :
    ∃ τ : ST, (∀ k, k ≠ 0 → τ k = ρ k) ∧ (∀ i, i ≠ 0 → i ≠ 1 → τ 0 i 0 = ρ 0 i 0) ∧ τ 0 0 0 = ρ 0 0 0 + (n - 1) ∧ τ 0 1 0 = max 0 (ρ 0 1 0 - (n - 1)) ∧ goA π n ρ = unitA π τ ∧ runA π step fin D ρ s = runA π step fin (D - n + 1) τ s := by
  have gs := goA_skip hb h (n - 1) (by omega)
  refine ⟨goA π (n - 1) ρ, fun k hk => by rw [gs, skipA_k hk], fun i i0 i1 => by rw [gs, skipA_0 i0 i1], by rw [gs, skipA_t]; omega, by rw [gs, skipA_b]; omega, ?_, ?_⟩
  · have := goA_succ (π := π) (n - 1) ρ
    rw [show n - 1 + 1 = n by omega] at this
    exact this
  · have := runA_skip (fin := fin) hb h hs (D - n + 1) (n - 1) (by omega)
    rw [show n - 1 + (D - n + 1) = D by omega] at this
    exact this
/-- who is chosen in a unit -/
noncomputable def chU (π : PL) (σ : ST) : Int := chT π (tellsA π (π 0 1).toNat σ)
theorem tellsA_0 {π : PL} {σ : ST} {k : Nat} (h : k = 0 ∨ k = 8) (m : Nat) : tellsA π m σ k = σ k := by
  have := tellsW_0 (π := π) (w := -1) (σ := σ) h m
  rw [tellsW_none m (fun f _ => by omega)] at this
  exact this
theorem tellsA_k {π : PL} {σ : ST} {k : Nat} (h : k = 1 ∨ k = 2) : ∀ m : Nat, tellsA π m σ k = σ k := by
  intro m
  induction m with
  | zero => rfl
  | succ m ih =>
    show tellA π (tellsA π m σ) m k = σ k
    unfold tellA
    split
    · unfold acceptA
      split
      · rw [up_k (by omega)]; exact ih
      · rw [climbW_k (by omega) (by omega) (by omega) (by omega), pushA_k (by omega) (by omega)]; exact ih
    · exact ih
theorem sendA_0 {π : PL} {σ : ST} {l g : Int} (ht : treeOK π) (l0 : 0 ≤ l) (l1 : l < π 0 0) : sendA π σ l g 0 2 0 = σ 0 2 0 + 1 ∧ sendA π σ l g 0 3 0 = σ 0 3 0 + g ∧ sendA π σ l g 0 4 0 = l := by
  have n12 := ht.2.1
  unfold sendA
  refine ⟨by rw [up_i (by decide), up_i (by decide), up_eq], ?_, by rw [up_i (by decide), up_eq]⟩
  rw [up_i (by decide), up_i (by decide), up_i (by decide), (climbS_all ht 13 (Or.inr ⟨l0, l1, by omega⟩)).1 0 (by decide) (by decide) (by decide), up_eq]
theorem unit_ch {π : PL} {K : Int} {σ : ST} (hp : PlanOK π) (inv : AInv π K σ) :
    (chU π σ = -1 ∨ (0 ≤ chU π σ ∧ chU π σ < π 0 0 ∧ kids π (chU π σ) = 0)) ∧
    unitA π σ 0 2 0 = σ 0 2 0 + (if chU π σ = -1 then 0 else 1) ∧
    (chU π σ ≠ -1 → unitA π σ 0 4 0 = chU π σ) ∧ (chU π σ = -1 → unitA π σ 0 4 0 = σ 0 4 0) ∧
    unitA π σ 0 3 0 = σ 0 3 0 + (if chU π σ = -1 then 0 else chG π (tellsA π (π 0 1).toNat σ)) := by
  have n8 := hp.2.1
  have inv1 : AInv π (K + (π 0 1).toNat) (tellsA π (π 0 1).toNat σ) := (tellsA_inv hp inv (π 0 1).toNat (by omega)).1
  have t0 := tellsA_0 (π := π) (σ := σ) (k := 0) (Or.inl rfl) (π 0 1).toNat
  generalize hτ : tellsA π (π 0 1).toNat σ = τ at *
  have eu : chU π σ = chT π τ := by unfold chU; rw [hτ]
  have ua : unitA π σ = tickA (midA π τ) := by unfold unitA; rw [hτ]
  rw [ua, eu, tickA_0 (by decide) (by decide), tickA_0 (by decide) (by decide), tickA_0 (by decide) (by decide)]
  unfold chT midA
  by_cases b : τ 0 1 0 = 0
  · rw [if_pos b, if_pos b]
    have cr := chA_rng hp.1 inv1
    rw [chooseA_ch]
    by_cases c : chA π τ = -1
    · rw [if_pos c, if_pos c, t0]
      exact ⟨Or.inl c, by omega, fun u => absurd c u, fun _ => rfl, by rw [if_pos c]; omega⟩
    · rw [if_neg c, if_neg c]
      rcases cr with r | r
      · exact absurd r c
      · obtain ⟨s1, s2, s3⟩ := sendA_0 (σ := τ) (g := chG π τ) hp.1 r.1 r.2.1
        rw [s1, s2, s3, t0]
        exact ⟨Or.inr ⟨r.1, r.2.1, r.2.2.2⟩, rfl, fun _ => rfl, fun u => absurd u c, by rw [if_neg c]⟩
  · rw [if_neg b, if_neg b, if_pos rfl, if_pos rfl, t0]
    exact ⟨Or.inl rfl, by omega, fun u => absurd rfl u, fun _ => rfl, by omega⟩
theorem unit0_r {h : HP} {π : PL} {K : Int} {σ : ST} {P : HP → Prop} (x : RX h π K σ) (i : IdleR h) (hT : σ 0 0 0 + 1 ≤ 2700)
    (k : ∀ h', FrU h h' → IdleR h' → RX h' π K (unitA π σ) → h' 12 7 26 = chU π σ → (chU π σ ≠ -1 → h' 12 7 28 = chG π (tellsA π (π 0 1).toNat σ) ∧ h' 12 7 27 = tellsA π (π 0 1).toNat σ 7 (chU π σ) 0) → P h') : wX12_unit 7 h P := by
  have n0 := x.1.1.1
  obtain ⟨q1, q2, q3, q4⟩ := id i
  refine unit_r x hT ⟨by omega, by omega, by omega, by omega⟩ (fun h' f1 f2 f3 f4 f5 => ?_)
  rw [q1, suppW_none] at f3 f4 f5
  rw [q1, toldN_none] at f2
  rw [unitW_none] at f3
  rw [tellsW_none _ (fun f _ => by omega)] at f4 f5
  have w0 : accN σ (tellsA π (π 0 1).toNat σ) (h 12 7 32) = 0 := by unfold accN; rw [q2, if_neg (by omega)]
  refine k h' f1 ⟨?_, ?_, ?_, ?_⟩ f3 f5.1 f5.2
  · rw [f1.2 29 (by decide) (by decide) (by decide)]; exact q1
  · rw [f1.2 32 (by decide) (by decide) (by decide)]; exact q2
  · rw [f2]; omega
  · rw [f4.1, w0]; omega
/-! a row put by -/
def FrS (h0 h : HP) : Prop := (∀ k, k ≠ 12 → k ≠ 56 → k ≠ 59 → k ≠ 60 → k ≠ 61 → k ≠ 63 → k ≠ 67 → k ≠ 68 → k ≠ 69 → k ≠ 70 → h k = h0 k) ∧ (∀ j, ¬ scrJ j → h 12 7 j = h0 12 7 j) ∧ (∀ j, 0 ≤ j → j < 3099 → h 63 7 j = h0 56 7 j)
theorem FrS.u {h0 h h' : HP} (a : FrS h0 h) (b : FrU h h') : FrS h0 h' := ⟨fun k k1 k2 k3 k4 k5 k6 k7 k8 k9 k10 => by rw [b.1 k k1 k2 k3 k4 k5, a.1 k k1 k2 k3 k4 k5 k6 k7 k8 k9 k10], fun j q => by
  have q' : ¬ (j = 1 ∨ (22 < j ∧ j < 34) ∨ (42 < j ∧ j < 50)) := q
  rw [b.2 j (by omega) (by omega) (by omega), a.2.1 j q], fun j j0 j1 => by rw [b.1 63 (by decide) (by decide) (by decide) (by decide) (by decide)]; exact a.2.2 j j0 j1⟩
theorem FrS.k56 {h0 h h' : HP} (a : FrS h0 h) (b : ∀ k, k ≠ 56 → k ≠ 59 → h' k = h k) : FrS h0 h' := ⟨fun k k1 k2 k3 k4 k5 k6 k7 k8 k9 k10 => by rw [b k k2 k3, a.1 k k1 k2 k3 k4 k5 k6 k7 k8 k9 k10], fun j q => by rw [b 12 (by decide) (by decide)]; exact a.2.1 j q, fun j j0 j1 => by rw [b 63 (by decide) (by decide)]; exact a.2.2 j j0 j1⟩
theorem remember_s {h : HP} {P : HP → Prop} (k : ∀ h', (∀ k, k ≠ 63 → h' k = h k) → FrS h h' → P h') : wX12_rememberNow 7 h P := by
  refine remember_r (fun h' e => ?_)
  have f : ∀ k, k ≠ 63 → h' k = h k := fun k hk => by rw [e, upr_k hk]
  exact k h' f ⟨fun k _ _ _ _ _ k6 _ _ _ _ => f k k6, fun j _ => by rw [f 12 (by decide)], fun j j0 j1 => by rw [e, upr_eq]; exact if_pos ⟨j0, j1⟩⟩
theorem back_s {h0 h : HP} {v : Int} {P : Int → HP → Prop} (f : FrS h0 h) (k : ∀ h', (∀ k, k ≠ 56 → h' k = h k) → FrQR h0 h' → FrS h0 h' → P v h') : wX12_back 7 v h P := by
  refine back_r (fun h' e => ?_)
  have g : ∀ k, k ≠ 56 → h' k = h k := fun k hk => by rw [e, upr_k hk]
  refine k h' g ⟨fun k k1 k2 k3 k4 k5 k6 k7 k8 k9 k10 => by rw [g k k2]; exact f.1 k k1 k2 k3 k4 k5 k6 k7 k8 k9 k10, fun j q => by rw [g 12 (by decide)]; exact f.2.1 j q, fun j j0 j1 => ?_⟩ (f.k56 (fun k hk _ => g k hk))
  rw [e, upr_eq, if_pos ⟨j0, j1⟩]
  exact f.2.2 j j0 j1
theorem RX.f63 {h h' : HP} {π : PL} {K : Int} {σ : ST} (x : RX h π K σ) (f : ∀ k, k ≠ 63 → h' k = h k) : RX h' π K σ := ⟨x.1, x.2.1.congr (fun k k1 k2 => f k (by omega)), x.2.2.1, by rw [f 56 (by decide)]; exact x.2.2.2⟩
theorem IdleR.f12 {h h' : HP} (i : IdleR h) (f : h' 12 = h 12) : IdleR h' := by unfold IdleR at *; rw [f]; exact i
theorem RX.qr {h h' : HP} {π : PL} {K : Int} {σ : ST} (x : RX h π K σ) (f : FrQR h h') : RX h' π K σ :=
  ⟨x.1, x.2.1.congr (fun k k1 k2 => f.1 k (by omega) (by omega) (by omega) (by omega) (by omega) (by omega) (by omega) (by omega) (by omega) (by omega)), x.2.2.1, x.2.2.2.ext x.1 (fun b b0 b1 => x.2.2.1.qln b b0 b1) f.2.2⟩
/-- a line copied -/
theorem LX.cp {h h' : HP} {π : PL} {K : Int} {σ τ : ST} (x : LX h 10 π K σ) (f : FrL 12 h h') (inv : AInv π K τ) (l : LineC h' 12 π τ) : LX h' 12 π K τ := ⟨x.1, x.2.1.fr f, inv, l⟩
