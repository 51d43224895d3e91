/-! storms: the class -/
theorem way_bits : ∀ n : Nat, n ≤ 5 → ∀ w : Nat, w < 2 ^ n → ∀ m : Nat, m ≤ 4 → n ≤ m → bAnd (bShr w m) 1 = 0 := by decide +kernel
theorem far_bits {n w i : Int} (hn : 1 ≤ n ∧ n ≤ 5) (w0 : 0 ≤ w) (hw : w < bShl 1 n) (hi : n ≤ i) : ∀ n', i ≤ n' → n' ≤ 4 → bAnd (bShr w n') 1 = 0 := by
  intro n' h1 h2
  have sh := shl_1 hn
  have e : ((2 ^ n.toNat : Nat) : Int) = bShl 1 n := by rw [sh.1]; push_cast; rfl
  have := way_bits n.toNat (by omega) w.toNat (by omega) n'.toNat (by omega) (by omega)
  rw [Int.toNat_of_nonneg w0, Int.toNat_of_nonneg (by omega)] at this
  exact this
