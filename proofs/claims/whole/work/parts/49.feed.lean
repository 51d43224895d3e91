/-! feed: bytes of a number -/
theorem byte_bv (x : BitVec 32) (l : Nat) (hl : l ≤ 24) : (x >>> l) &&& 255#32 = (x.sshiftRight l) &&& 255#32 := by
  apply BitVec.eq_of_getLsbD_eq
  intro i hi
  rw [BitVec.getLsbD_and, BitVec.getLsbD_and, BitVec.getLsbD_ushiftRight, BitVec.getLsbD_sshiftRight]
  by_cases h8 : i < 8
  · have h1 : ¬ 32 ≤ i := by omega
    have h2 : l + i < 32 := by omega
    simp [h1, h2]
  · have : (255#32).getLsbD i = false := by
      have : ∀ i : Nat, i < 32 → 8 ≤ i → (255#32).getLsbD i = false := by decide
      exact this i hi (by omega)
    rw [this, Bool.and_false, Bool.and_false]
theorem ush_bv (y : Int32) : ((y.toUInt32 >>> ((Int32.ofInt 0).toUInt32 &&& Int32.toUInt32 31)).toInt32).toBitVec = y.toBitVec >>> 0 ∧ ((y.toUInt32 >>> ((Int32.ofInt 8).toUInt32 &&& Int32.toUInt32 31)).toInt32).toBitVec = y.toBitVec >>> 8 ∧ ((y.toUInt32 >>> ((Int32.ofInt 16).toUInt32 &&& Int32.toUInt32 31)).toInt32).toBitVec = y.toBitVec >>> 16 ∧ ((y.toUInt32 >>> ((Int32.ofInt 24).toUInt32 &&& Int32.toUInt32 31)).toInt32).toBitVec = y.toBitVec >>> 24 := ⟨rfl, rfl, rfl, rfl⟩
theorem sh_bv (y : Int32) : (y >>> (Int32.ofInt 0 &&& 31)).toBitVec = y.toBitVec.sshiftRight 0 ∧ (y >>> (Int32.ofInt 8 &&& 31)).toBitVec = y.toBitVec.sshiftRight 8 ∧ (y >>> (Int32.ofInt 16 &&& 31)).toBitVec = y.toBitVec.sshiftRight 16 ∧ (y >>> (Int32.ofInt 24 &&& 31)).toBitVec = y.toBitVec.sshiftRight 24 := ⟨rfl, rfl, rfl, rfl⟩
theorem byte_eq {a l : Int} (hl : l = 0 ∨ l = 8 ∨ l = 16 ∨ l = 24) : bAnd (bUshr a l) 255 = bAnd (bShr a l) 255 := by
  unfold bAnd bUshr bShr
  rw [Int32.ofInt_toInt, Int32.ofInt_toInt]
  congr 1
  apply Int32.toBitVec_inj.mp
  rw [Int32.toBitVec_and, Int32.toBitVec_and]
  have u := ush_bv (Int32.ofInt a)
  have s := sh_bv (Int32.ofInt a)
  have c : (Int32.ofInt 255).toBitVec = 255#32 := rfl
  rcases hl with z | z | z | z <;> subst z <;> rw [c]
  · rw [u.1, s.1]; exact byte_bv _ 0 (by omega)
  · rw [u.2.1, s.2.1]; exact byte_bv _ 8 (by omega)
  · rw [u.2.2.1, s.2.2.1]; exact byte_bv _ 16 (by omega)
  · rw [u.2.2.2, s.2.2.2]; exact byte_bv _ 24 (by omega)
theorem byte_rng (v : Int) : 0 ≤ bAnd v 255 ∧ bAnd v 255 ≤ 255 := by
  unfold bAnd
  have e : ((Int32.ofInt v &&& Int32.ofInt 255).toBitVec).toNat ≤ 255 := by
    rw [Int32.toBitVec_and, BitVec.toNat_and]
    exact Nat.le_trans Nat.and_le_right (by decide)
  have t : (Int32.ofInt v &&& Int32.ofInt 255).toInt = (((Int32.ofInt v &&& Int32.ofInt 255).toBitVec).toNat : Int) := by
    show ((Int32.ofInt v &&& Int32.ofInt 255).toBitVec).toInt = _
    rw [BitVec.toInt_eq_toNat_of_lt (by omega)]
  rw [t]
  omega
