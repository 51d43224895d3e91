theorem FrC.rf (h : HP) : FrC h h := ⟨fun _ _ _ => rfl, fun _ _ _ _ => rfl⟩
theorem FrC.tr {h h' h'' : HP} (a : FrC h h') (b : FrC h' h'') : FrC h h'' := ⟨fun k k1 k2 => by rw [b.1 k k1 k2, a.1 k k1 k2], fun j j1 j2 j3 => by rw [b.2 j j1 j2 j3, a.2 j j1 j2 j3]⟩
/-- what is changed by units of time -/
def FrU (h h' : HP) : Prop := (∀ k, k ≠ 12 → k ≠ 56 → k ≠ 59 → k ≠ 60 → k ≠ 61 → h' k = h k) ∧ (∀ j, (j < 23 ∨ 28 < j ∨ j = 25) → j ≠ 31 → j ≠ 33 → h' 12 7 j = h 12 7 j)
theorem FrU.rf (h : HP) : FrU h h := ⟨fun _ _ _ _ _ _ => rfl, fun _ _ _ _ => rfl⟩
theorem FrU.tr {h h' h'' : HP} (a : FrU h h') (b : FrU h' h'') : FrU h h'' := ⟨fun k k1 k2 k3 k4 k5 => by rw [b.1 k k1 k2 k3 k4 k5, a.1 k k1 k2 k3 k4 k5], fun j j1 j2 j3 => by rw [b.2 j j1 j2 j3, a.2 j j1 j2 j3]⟩
/-- what is changed by telling -/
def FrT (h h' : HP) : Prop := (∀ k, k ≠ 12 → k ≠ 56 → k ≠ 59 → k ≠ 60 → k ≠ 61 → h' k = h k) ∧ (∀ j, j ≠ 23 → j ≠ 24 → j ≠ 31 → j ≠ 33 → h' 12 7 j = h 12 7 j)
theorem FrT.rf (h : HP) : FrT h h := ⟨fun _ _ _ _ _ _ => rfl, fun _ _ _ _ _ => rfl⟩
theorem FrT.tr {h h' h'' : HP} (a : FrT h h') (b : FrT h' h'') : FrT h h'' := ⟨fun k k1 k2 k3 k4 k5 => by rw [b.1 k k1 k2 k3 k4 k5, a.1 k k1 k2 k3 k4 k5], fun j j1 j2 j3 j4 => by rw [b.2 j j1 j2 j3 j4, a.2 j j1 j2 j3 j4]⟩
/-- the times put by -/
def cameP (g : Int → Int) (wc t : Int) : Nat → Int → Int
  | 0 => g
  | m + 1 => fun i => if i = (wc + m) % 420 then t else cameP g wc t m i
/-- how many more wait in the watched -/
def accN (σ τ : ST) (W : Int) : Int := if 0 ≤ W then τ 6 W 0 - σ 6 W 0 else 0
def WatR (h h' : HP) (σ τ : ST) : Prop := h' 12 7 33 = h 12 7 33 + accN σ τ (h 12 7 32) ∧ h' 61 7 = cameP (h 61 7) (h 12 7 33) (σ 0 0 0) (accN σ τ (h 12 7 32)).toNat
theorem acceptA_0 {π : PL} {σ : ST} {l z : Int} {k : Nat} (h : k = 0 ∨ k = 8) : acceptA π σ l z k = σ k := by
  unfold acceptA
  split
  · rw [up_k (by omega)]
  · rw [climbW_k (by omega) (by omega) (by omega) (by omega), pushA_k (by omega) (by omega)]
theorem accN_add {σ τ ρ : ST} {W : Int} : accN σ ρ W = accN σ τ W + accN τ ρ W := by unfold accN; split <;> omega
theorem cameP_add {g : Int → Int} {wc t : Int} (a : Nat) : ∀ b : Nat, cameP g wc t (a + b) = cameP (cameP g wc t a) (wc + a) t b := by
  intro b
  induction b with
  | zero => rfl
  | succ b ih =>
    funext i
    show (if i = (wc + ((a + b : Nat) : Int)) % 420 then t else cameP g wc t (a + b) i) = (if i = (wc + (a : Int) + (b : Int)) % 420 then t else cameP (cameP g wc t a) (wc + a) t b i)
    rw [ih, show wc + ((a + b : Nat) : Int) = wc + (a : Int) + (b : Int) by omega]
theorem WatR.tr {h h' h'' : HP} {σ τ ρ : ST} (a : WatR h h' σ τ) (b : WatR h' h'' τ ρ) (e : h' 12 7 32 = h 12 7 32) (e0 : τ 0 0 0 = σ 0 0 0) (p1 : 0 ≤ accN σ τ (h 12 7 32)) (p2 : 0 ≤ accN τ ρ (h 12 7 32)) : WatR h h'' σ ρ := by
  obtain ⟨a1, a2⟩ := a
  obtain ⟨b1, b2⟩ := b
  rw [e] at b1 b2
  refine ⟨?_, ?_⟩
  · rw [b1, a1, accN_add (σ := σ) (τ := τ) (ρ := ρ)]; omega
  · rw [b2, a2, a1, e0, accN_add (σ := σ) (τ := τ) (ρ := ρ), Int.toNat_add p1 p2, cameP_add, Int.toNat_of_nonneg p1]
