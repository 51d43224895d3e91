noncomputable def runA {S : Type} (π : PL) (step : S → ST → ST → Sum S Int) (fin : S → Int) : Nat → ST → S → Int
  | 0, _, s => fin s
  | d + 1, σ, s => match step s σ (unitA π σ) with
    | Sum.inl s' => runA π step fin d (unitA π σ) s'
    | Sum.inr v => v
theorem runA_l {S : Type} {π : PL} {step : S → ST → ST → Sum S Int} {fin : S → Int} {d : Nat} {σ : ST} {s s' : S} (h : step s σ (unitA π σ) = Sum.inl s') : runA π step fin (d + 1) σ s = runA π step fin d (unitA π σ) s' := by
  show (match step s σ (unitA π σ) with | Sum.inl s' => runA π step fin d (unitA π σ) s' | Sum.inr v => v) = _
  rw [h]
theorem runA_r {S : Type} {π : PL} {step : S → ST → ST → Sum S Int} {fin : S → Int} {d : Nat} {σ : ST} {s : S} {v : Int} (h : step s σ (unitA π σ) = Sum.inr v) : runA π step fin (d + 1) σ s = v := by
  show (match step s σ (unitA π σ) with | Sum.inl s' => runA π step fin d (unitA π σ) s' | Sum.inr v => v) = _
  rw [h]
theorem goA_skip {π : PL} {ρ : ST} {n : Nat} (hb : 0 ≤ ρ 0 1 0) (h : ∀ j : Nat, j + 1 < n → goA π (j + 1) ρ = tickA (goA π j ρ)) : ∀ q : Nat, q < n → goA π q ρ = skipA ρ q := by
  intro q
  induction q with
  | zero => intro _; rw [show ((0 : Nat) : Int) = 0 by rfl, skipA_zero hb]; rfl
  | succ q ih =>
    intro hq
    rw [h q hq, ih (by omega), skipA_tick (by omega) hb]
    rfl
theorem runA_skip {S : Type} {π : PL} {step : S → ST → ST → Sum S Int} {fin : S → Int} {ρ : ST} {s : S} {n : Nat} (hb : 0 ≤ ρ 0 1 0) (h : ∀ j : Nat, j + 1 < n → goA π (j + 1) ρ = tickA (goA π j ρ)) (hs : ∀ τ : ST, (∀ k, k ≠ 0 → τ k = ρ k) → (∀ i, i ≠ 0 → i ≠ 1 → τ 0 i 0 = ρ 0 i 0) → step s τ (tickA τ) = Sum.inl s) (D : Nat) : ∀ q : Nat, q < n → runA π step fin (q + D) ρ s = runA π step fin D (goA π q ρ) s := by
  intro q
  induction q with
  | zero => intro _; rw [Nat.zero_add]; rfl
  | succ q ih =>
    intro hq
    have ih' := ih (by omega)
    have e := h q hq
    rw [goA_succ] at e
    have gs := goA_skip hb h q (by omega)
    have st : step s (goA π q ρ) (unitA π (goA π q ρ)) = Sum.inl s := by
      rw [e]
      refine hs _ (fun k hk => ?_) (fun i i0 i1 => ?_)
      · rw [gs, skipA_k hk]
      · rw [gs, skipA_0 i0 i1]
    -- one more unit
    have one : ∀ (d : Nat) (a : Nat), runA π step fin (a + (d + 1)) ρ s = runA π step fin (d + 1) (goA π a ρ) s → True := fun _ _ _ => trivial
    clear one
    have gen : ∀ D : Nat, runA π step fin (q + D) ρ s = runA π step fin D (goA π q ρ) s := by
      clear ih ih'
      have key : ∀ (q' : Nat), q' ≤ q → ∀ D : Nat, runA π step fin (q' + D) ρ s = runA π step fin D (goA π q' ρ) s := by
        intro q'
        induction q' with
        | zero => intro _ D; rw [Nat.zero_add]; rfl
        | succ q' ih2 =>
          intro hq' D
          have e2 := h q' (by omega)
          rw [goA_succ] at e2
          have gs2 := goA_skip hb h q' (by omega)
          have st2 : step s (goA π q' ρ) (unitA π (goA π q' ρ)) = Sum.inl s := by
            rw [e2]
            refine hs _ (fun k hk => ?_) (fun i i0 i1 => ?_)
            · rw [gs2, skipA_k hk]
            · rw [gs2, skipA_0 i0 i1]
          rw [show q' + 1 + D = q' + (D + 1) by omega, ih2 (by omega) (D + 1), runA_l st2, goA_succ]
      exact key q (by omega)
    rw [show q + 1 + D = q + (D + 1) by omega, gen (D + 1), runA_l st, goA_succ]
/-- a step of the class: some quiet units and one more -/
theorem runA_adv {S : Type} {π : PL} {step : S → ST → ST → Sum S Int} {fin : S → Int} {ρ : ST} {s : S} {n D : Nat} (hb : 0 ≤ ρ 0 1 0) (h : ∀ j : Nat, j + 1 < n → goA π (j + 1) ρ = tickA (goA π j ρ)) (hs : ∀ τ : ST, (∀ k, k ≠ 0 → τ k = ρ k) → (∀ i, i ≠ 0 → i ≠ 1 → τ 0 i 0 = ρ 0 i 0) → step s τ (tickA τ) = Sum.inl s) (hn : 1 ≤ n) (hD : n ≤ D) :
    ∃ τ : ST, (∀ k, k ≠ 0 → τ k = ρ k) ∧ (∀ i, i ≠ 0 → i ≠ 1 → τ 0 i 0 = ρ 0 i 0) ∧ τ 0 0 0 = ρ 0 0 0 + (n - 1) ∧ τ 0 1 0 = max 0 (ρ 0 1 0 - (n - 1)) ∧ goA π n ρ = unitA π τ ∧ runA π step fin D ρ s = runA π step fin (D - n + 1) τ s := by
  have gs := goA_skip hb h (n - 1) (by omega)
  refine ⟨goA π (n - 1) ρ, fun k hk => by rw [gs, skipA_k hk], fun i i0 i1 => by rw [gs, skipA_0 i0 i1], by rw [gs, skipA_t]; omega, by rw [gs, skipA_b]; omega, ?_, ?_⟩
  · have := goA_succ (π := π) (n - 1) ρ
    rw [show n - 1 + 1 = n by omega] at this
    exact this
  · have := runA_skip (fin := fin) hb h hs (D - n + 1) (n - 1) (by omega)
    rw [show n - 1 + (D - n + 1) = D by omega] at this
    exact this
/-- a line copied -/
theorem LX.cp {h h' : HP} {π : PL} {K : Int} {σ τ : ST} (x : LX h 10 π K σ) (f : FrL 12 h h') (inv : AInv π K τ) (l : LineC h' 12 π τ) : LX h' 12 π K τ := ⟨x.1, x.2.1.fr f, inv, l⟩
