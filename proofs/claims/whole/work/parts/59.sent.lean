/-! what goes in fifty units -/
theorem tellsA_1 {π : PL} {σ : ST} : ∀ m : Nat, tellsA π m σ 1 = σ 1 := by
  have a : ∀ (τ : ST) (l z : Int), acceptA π τ l z 1 = τ 1 := by
    intro τ l z
    unfold acceptA
    split
    · rw [up_k (by decide)]
    · rw [climbW_k (by decide) (by decide) (by decide) (by decide), pushA_k (by decide) (by decide)]
  intro m
  induction m with
  | zero => rfl
  | succ m ih =>
    show tellA π (tellsA π m σ) m 1 = σ 1
    unfold tellA
    split
    · rw [a, ih]
    · exact ih
/-- what is sent, less what is busy, grows by one a unit at the most -/
theorem unitA_sent {π : PL} {K c : Int} {σ : ST} (hp : PlanOK π) (inv : AInv π K σ) (hT : σ 0 0 0 + 1 ≤ 2700) (c0 : 0 ≤ c) (c1 : c < π 0 0) :
    σ 1 c 0 ≤ unitA π σ 1 c 0 ∧ unitA π σ 1 c 0 - unitA π σ 0 1 0 ≤ σ 1 c 0 - σ 0 1 0 + 1 ∧ 0 ≤ unitA π σ 0 1 0 ∧ unitA π σ 0 1 0 ≤ 64 := by
  have n8 := hp.2.1
  have inv1 : AInv π (K + (π 0 1).toNat) (tellsA π (π 0 1).toNat σ) := (tellsA_inv hp inv (π 0 1).toNat (by omega)).1
  have t0 : tellsA π (π 0 1).toNat σ 0 = σ 0 := (tellsA_inv hp inv (π 0 1).toNat (by omega)).2.1
  have t1 := tellsA_1 (π := π) (σ := σ) (π 0 1).toNat
  have br := inv.2.1
  have ui := (unitA_inv hp inv hT).2.1
  generalize hτ : tellsA π (π 0 1).toNat σ = τ at *
  have ua : unitA π σ = tickA (midA π τ) := by unfold unitA; rw [hτ]
  rw [ua] at ui ⊢
  rw [tickA_k (by decide)]
  refine ⟨?_, ?_, ui.1, ui.2⟩
  · unfold midA
    by_cases b : τ 0 1 0 = 0
    · rw [if_pos b, chooseA_ch]
      by_cases cc : chA π τ = -1
      · rw [if_pos cc, t1]; exact Int.le_refl _
      · rw [if_neg cc]
        rcases chA_rng hp.1 inv1 with r | r
        · exact absurd r cc
        · have s := (sendA_all (σ := τ) (g := chG π τ) hp.1 r.1 r.2.1).2.2.2.2.1 c c0 c1
          have z := (inv1.2.2.2.2.2.2.1 _ r.1 r.2.1).2.2.2.2.2.1 0 (Int.le_refl _) r.2.2.1
          by_cases w : inCh π (chA π τ) c
          · rw [(s.1 w).1, t1]; omega
          · rw [(s.2 w).1, t1]; exact Int.le_refl _
    · rw [if_neg b, t1]; exact Int.le_refl _
  · rw [tickA_b]
    unfold midA
    by_cases b : τ 0 1 0 = 0
    · rw [if_pos b, chooseA_ch]
      have b' : σ 0 1 0 = 0 := by rw [← t0]; exact b
      by_cases cc : chA π τ = -1
      · rw [if_pos cc, t1, b, b', if_neg (by omega)]; omega
      · rw [if_neg cc]
        rcases chA_rng hp.1 inv1 with r | r
        · exact absurd r cc
        · have sa := sendA_all (σ := τ) (g := chG π τ) hp.1 r.1 r.2.1
          have s := sa.2.2.2.2.1 c c0 c1
          have z := (inv1.2.2.2.2.2.2.1 _ r.1 r.2.1).2.2.2.2.2.1 0 (Int.le_refl _) r.2.2.1
          rw [sa.1.2.1, b', if_pos (by omega)]
          by_cases w : inCh π (chA π τ) c
          · rw [(s.1 w).1, t1]; omega
          · rw [(s.2 w).1, t1]; omega
    · rw [if_neg b, t1, t0]
      have b' : ¬ σ 0 1 0 = 0 := by rw [← t0]; exact b
      rw [if_pos (by omega)]; omega
theorem goA_sent {π : PL} {K c : Int} {σ : ST} (hp : PlanOK π) (inv : AInv π K σ) (hT : σ 0 0 0 ≤ 2000) (c0 : 0 ≤ c) (c1 : c < π 0 0) : ∀ m : Nat, m ≤ 600 → σ 1 c 0 ≤ goA π m σ 1 c 0 ∧ goA π m σ 1 c 0 - goA π m σ 0 1 0 ≤ σ 1 c 0 - σ 0 1 0 + m ∧ 0 ≤ goA π m σ 0 1 0 ∧ goA π m σ 0 1 0 ≤ 64 := by
  have br := inv.2.1
  intro m
  induction m with
  | zero => intro _; show σ 1 c 0 ≤ σ 1 c 0 ∧ σ 1 c 0 - σ 0 1 0 ≤ σ 1 c 0 - σ 0 1 0 + 0 ∧ 0 ≤ σ 0 1 0 ∧ σ 0 1 0 ≤ 64; omega
  | succ m ih =>
    intro hm
    have i := ih (by omega)
    have g := goA_at hp inv hT (m := m) (by omega)
    have u := unitA_sent hp g.1 (by omega) c0 c1
    rw [goA_succ]
    omega
/-! other, look: the answer -/
def szOK (π : PL) (σ : ST) : Prop := ∀ f, 0 ≤ f → f < π 0 1 → σ 8 f 0 = π 5 f
abbrev AC : Type := Int × Int × (Int → Int) × (Int → Int → Prop)
noncomputable def sntA (π : PL) (σ : ST) (f z c : Int) : Int := goA π 50 (sizA σ f z) 1 c 0 - σ 1 c 0
noncomputable def putO (π : PL) (σ : ST) (f z : Int) (a : AC) : AC :=
  (a.1 + 1, if a.1 = 0 then 100 * f + z else a.2.1, fun c => @ite Int (a.2.2.2 c (sntA π σ f z c)) (Classical.propDecidable _) (a.2.2.1 c) (a.2.2.1 c + 1), fun c v => a.2.2.2 c v ∨ v = sntA π σ f z c)
noncomputable def stepO (π : PL) (σ : ST) (m : Int) (nt : PL) (f z : Int) (a : AC) : AC := @ite AC (z ≠ σ 8 f 0 ∧ okN π σ (sizA σ f z) m nt) (Classical.propDecidable _) (putO π σ f z a) a
noncomputable def rowO (π : PL) (σ : ST) (m : Int) (nt : PL) (f : Int) : Nat → AC → AC
  | 0, a => a
  | n + 1, a => stepO π σ m nt f (n + 1) (rowO π σ m nt f n a)
noncomputable def allO (π : PL) (σ : ST) (m : Int) (nt : PL) : Nat → AC
  | 0 => (0, -1, fun _ => 0, fun _ _ => False)
  | n + 1 => rowO π σ m nt n 64 (allO π σ m nt n)
def ACok (b : Int) (a : AC) : Prop := (0 ≤ a.1 ∧ a.1 ≤ b) ∧ (a.2.1 = -1 ↔ a.1 = 0) ∧ (-1 ≤ a.2.1 ∧ a.2.1 ≤ 1000) ∧ ∀ c, 0 ≤ a.2.2.1 c ∧ a.2.2.1 c ≤ a.1
theorem ACok.mono {b b' : Int} {a : AC} (h : ACok b a) (q : b ≤ b') : ACok b' a := ⟨⟨h.1.1, by have := h.1.2; omega⟩, h.2⟩
theorem ACok.put {π : PL} {σ : ST} {b f z : Int} {a : AC} (h : ACok b a) (f0 : 0 ≤ f ∧ f < 8) (z0 : 1 ≤ z ∧ z ≤ 64) : ACok (b + 1) (putO π σ f z a) := by
  obtain ⟨h1, h2, h3, h4⟩ := h
  refine ⟨?_, ?_, ?_, fun c => ?_⟩
  · show 0 ≤ a.1 + 1 ∧ a.1 + 1 ≤ b + 1; omega
  · show (if a.1 = 0 then 100 * f + z else a.2.1) = -1 ↔ a.1 + 1 = 0
    split <;> omega
  · show -1 ≤ (if a.1 = 0 then 100 * f + z else a.2.1) ∧ (if a.1 = 0 then 100 * f + z else a.2.1) ≤ 1000
    split <;> omega
  · have := h4 c
    show 0 ≤ @ite Int (a.2.2.2 c (sntA π σ f z c)) (Classical.propDecidable _) (a.2.2.1 c) (a.2.2.1 c + 1) ∧ @ite Int (a.2.2.2 c (sntA π σ f z c)) (Classical.propDecidable _) (a.2.2.1 c) (a.2.2.1 c + 1) ≤ a.1 + 1
    split <;> omega
theorem ACok.step {π : PL} {σ : ST} {b m f z : Int} {nt : PL} {a : AC} (h : ACok b a) (f0 : 0 ≤ f ∧ f < 8) (z0 : 1 ≤ z ∧ z ≤ 64) : ACok (b + 1) (stepO π σ m nt f z a) := by
  unfold stepO
  split
  · exact h.put f0 z0
  · exact h.mono (by omega)
theorem ACok.row {π : PL} {σ : ST} {b m f : Int} {nt : PL} {a : AC} (h : ACok b a) (f0 : 0 ≤ f ∧ f < 8) : ∀ n : Nat, n ≤ 64 → ACok (b + n) (rowO π σ m nt f n a) := by
  intro n
  induction n with
  | zero => intro _; exact h.mono (by omega)
  | succ n ih =>
    intro hn
    have := (ih (by omega)).step (π := π) (σ := σ) (m := m) (nt := nt) f0 (z := (n : Int) + 1) (by omega)
    rw [show b + ((n + 1 : Nat) : Int) = b + n + 1 by omega]
    exact this
theorem ACok.all {π : PL} {σ : ST} {m : Int} {nt : PL} : ∀ n : Nat, n ≤ 8 → ACok (64 * n) (allO π σ m nt n) := by
  intro n
  induction n with
  | zero =>
    intro _
    refine ⟨?_, ?_, ?_, fun c => ?_⟩
    · show (0 : Int) ≤ 0 ∧ (0 : Int) ≤ 64 * 0; omega
    · show (-1 : Int) = -1 ↔ (0 : Int) = 0; omega
    · show (-1 : Int) ≤ -1 ∧ (-1 : Int) ≤ 1000; omega
    · show (0 : Int) ≤ 0 ∧ (0 : Int) ≤ 0; omega
  | succ n ih =>
    intro hn
    have := (ih (by omega)).row (π := π) (σ := σ) (m := m) (nt := nt) (f := n) (by omega) 64 (Nat.le_refl _)
    rw [show (64 : Int) * ((n + 1 : Nat) : Int) = 64 * n + (64 : Nat) by omega]
    exact this
/-- of those of the greatest count the least -/
def mstO (U : Int → Int) : Nat → Int
  | 0 => -1
  | n + 1 => if 0 < U n ∧ (mstO U n = -1 ∨ U (mstO U n) < U n) then n else mstO U n
theorem mstO_rng (U : Int → Int) : ∀ n : Nat, mstO U n = -1 ∨ (0 ≤ mstO U n ∧ mstO U n < n ∧ 0 < U (mstO U n)) := by
  intro n
  induction n with
  | zero => exact Or.inl rfl
  | succ n ih =>
    unfold mstO
    split
    · rename_i c; exact Or.inr ⟨by omega, by omega, c.1⟩
    · rcases ih with q | q
      · exact Or.inl q
      · exact Or.inr ⟨q.1, by omega, q.2.2⟩
noncomputable def otherV (π : PL) (σ : ST) (m : Int) (nt : PL) (a : Int) : Int × Int := if 0 ≤ a ∧ a ≤ 2 then (0, if a = 2 then @ite Int (okN π σ σ m nt) (Classical.propDecidable _) 1 0 else if a = 0 then (allO π σ m nt (π 0 1).toNat).1 else (allO π σ m nt (π 0 1).toNat).2.1) else (1, 0)
noncomputable def lookV (π : PL) (σ : ST) (m : Int) (nt : PL) (a : Int) : Int × Int := if 0 ≤ a ∧ a ≤ 1 then (0, if a = 0 then mstO (allO π σ m nt (π 0 1).toNat).2.2.1 (π 0 0).toNat else if mstO (allO π σ m nt (π 0 1).toNat).2.2.1 (π 0 0).toNat = -1 then 0 else (allO π σ m nt (π 0 1).toNat).2.2.1 (mstO (allO π σ m nt (π 0 1).toNat).2.2.1 (π 0 0).toNat)) else (1, 0)
