/-! storms: the class -/
theorem way_bits : ∀ n : Nat, n ≤ 5 → ∀ w : Nat, w < 2 ^ n → ∀ m : Nat, m ≤ 4 → n ≤ m → bAnd (bShr w m) 1 = 0 := by decide +kernel
theorem far_bits {n w i : Int} (hn : 1 ≤ n ∧ n ≤ 5) (w0 : 0 ≤ w) (hw : w < bShl 1 n) (hi : n ≤ i) : ∀ n', i ≤ n' → n' ≤ 4 → bAnd (bShr w n') 1 = 0 := by
  intro n' h1 h2
  have sh := shl_1 hn
  have e : ((2 ^ n.toNat : Nat) : Int) = bShl 1 n := by rw [sh.1]; push_cast; rfl
  have := way_bits n.toNat (by omega) w.toNat (by omega) n'.toNat (by omega) (by omega)
  rw [Int.toNat_of_nonneg w0, Int.toNat_of_nonneg (by omega)] at this
  exact this
theorem goA_stop {π : PL} {K : Int} {σ : ST} (hp : PlanOK π) (inv : AInv π K σ) (u : Nat) (h : σ 0 0 0 + u ≤ 2700) : goA π u σ 0 5 0 = σ 0 5 0 := (goA_inv hp u inv h).2.2.1
theorem not_now {π : PL} {K f u : Int} {σ : ST} (hp : PlanOK π) (inv : AInv π K σ) (hu : Unt π f (σ 0 0 0) u) (j : Nat) (hj : (j : Int) < u) (h : σ 0 0 0 + j ≤ 2700) : ¬ tellsNow π (goA π j σ) f := by
  intro t
  have g := goA_inv hp j inv h
  have t2 := t.2
  rw [g.2.1] at t2
  exact hu.2.1 j (by omega) hj t2
theorem is_now {π : PL} {K f u : Int} {σ : ST} (hp : PlanOK π) (inv : AInv π K σ) (hu : Unt π f (σ 0 0 0) u) (h1 : u < 1000000) (h : σ 0 0 0 + u ≤ 2700) (hb : bAnd (bShr (σ 0 5 0) f) 1 = 0) : tellsNow π (goA π u.toNat σ) f := by
  have u0 := hu.1.1
  have g := goA_inv hp u.toNat inv (by omega)
  refine ⟨?_, ?_⟩
  · rw [g.2.2.1]; exact hb
  · rw [g.2.1, Int.toNat_of_nonneg u0]; exact hu.2.2 h1
theorem u5_inv {π : PL} {K v : Int} {σ : ST} (inv : AInv π K σ) (hv : 0 ≤ v ∧ v < 256) : AInv π K (u5 v σ) := stp_inv inv hv
theorem or_rng {s f b : Int} (hs : 0 ≤ s ∧ s < 256) (hf : 0 ≤ f ∧ f < 8) (hb : b = 0 ∨ b = 1) : 0 ≤ bOr s (bShl b f) ∧ bOr s (bShl b f) < 256 := by
  have ob := or_bits s.toNat (by omega) f.toNat (by omega)
  rw [Int.toNat_of_nonneg hs.1, Int.toNat_of_nonneg hf.1] at ob
  rcases hb with b | b
  · rw [b, ob.2.1]; exact hs
  · rw [b]; exact ob.1
theorem LineC.u5 {h : HP} {L v : Int} {π : PL} {σ : ST} (q : LineC h L π σ) : LineC (up h 6 L 6 v) L π (u5 v σ) := q.num 5 (by omega)
/-- nothing is told any more -/
theorem goZ_none_left {π : PL} {K f w i u : Int} {σ : ST} (hp : PlanOK π) (inv : AInv π K σ) (d : Nat) (hT : σ 0 0 0 + d ≤ 2700) (hu : Unt π f (σ 0 0 0) u) (hd : (d : Int) ≤ u) : goZ π f w d σ i = goA π d σ := by
  have := goZ_skip (z := f) (s := w) (n := i) 0 d σ (fun j hj => not_now hp inv hu j (by omega) (by omega))
  rw [Nat.add_zero] at this
  rw [this]; rfl
