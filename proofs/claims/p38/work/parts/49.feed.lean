theorem byte_bv (x : BitVec 32) (l : Nat) (hl : l ≤ 24) : (x >>> l) &&& 255#32 = (x.sshiftRight l) &&& 255#32 := by
  apply BitVec.eq_of_getLsbD_eq
  intro i hi
  rw [BitVec.getLsbD_and, BitVec.getLsbD_and, BitVec.getLsbD_ushiftRight, BitVec.getLsbD_sshiftRight]
  by_cases h8 : i < 8
  · have h1 : ¬ 32 ≤ i := by omega
    have h2 : l + i < 32 := by omega
    simp [h1, h2]
  · have : (255#32).getLsbD i = false := by
      have : ∀ i : Nat, i < 32 → 8 ≤ i → (255#32).getLsbD i = false := by decide
      exact this i hi (by omega)
    rw [this, Bool.and_false, Bool.and_false]
theorem ush_bv (y : Int32) : ((y.toUInt32 >>> ((Int32.ofInt 0).toUInt32 &&& Int32.toUInt32 31)).toInt32).toBitVec = y.toBitVec >>> 0 ∧ ((y.toUInt32 >>> ((Int32.ofInt 8).toUInt32 &&& Int32.toUInt32 31)).toInt32).toBitVec = y.toBitVec >>> 8 ∧ ((y.toUInt32 >>> ((Int32.ofInt 16).toUInt32 &&& Int32.toUInt32 31)).toInt32).toBitVec = y.toBitVec >>> 16 ∧ ((y.toUInt32 >>> ((Int32.ofInt 24).toUInt32 &&& Int32.toUInt32 31)).toInt32).toBitVec = y.toBitVec >>> 24 := ⟨rfl, rfl, rfl, rfl⟩
theorem sh_bv (y : Int32) : (y >>> (Int32.ofInt 0 &&& 31)).toBitVec = y.toBitVec.sshiftRight 0 ∧ (y >>> (Int32.ofInt 8 &&& 31)).toBitVec = y.toBitVec.sshiftRight 8 ∧ (y >>> (Int32.ofInt 16 &&& 31)).toBitVec = y.toBitVec.sshiftRight 16 ∧ (y >>> (Int32.ofInt 24 &&& 31)).toBitVec = y.toBitVec.sshiftRight 24 := ⟨rfl, rfl, rfl, rfl⟩
theorem byte_eq {a l : Int} (hl : l = 0 ∨ l = 8 ∨ l = 16 ∨ l = 24) : bAnd (bUshr a l) 255 = bAnd (bShr a l) 255 := by
  unfold bAnd bUshr bShr
  rw [Int32.ofInt_toInt, Int32.ofInt_toInt]
  congr 1
  apply Int32.toBitVec_inj.mp
  rw [Int32.toBitVec_and, Int32.toBitVec_and]
  have u := ush_bv (Int32.ofInt a)
  have s := sh_bv (Int32.ofInt a)
  have c : (Int32.ofInt 255).toBitVec = 255#32 := rfl
  rcases hl with z | z | z | z <;> subst z <;> rw [c]
  · rw [u.1, s.1]; exact byte_bv _ 0 (by omega)
  · rw [u.2.1, s.2.1]; exact byte_bv _ 8 (by omega)
  · rw [u.2.2.1, s.2.2.1]; exact byte_bv _ 16 (by omega)
  · rw [u.2.2.2, s.2.2.2]; exact byte_bv _ 24 (by omega)
theorem byte_rng (v : Int) : 0 ≤ bAnd v 255 ∧ bAnd v 255 ≤ 255 := by
  unfold bAnd
  have e : ((Int32.ofInt v &&& Int32.ofInt 255).toBitVec).toNat ≤ 255 := by
    rw [Int32.toBitVec_and, BitVec.toNat_and]
    exact Nat.le_trans Nat.and_le_right (by decide)
  have t : (Int32.ofInt v &&& Int32.ofInt 255).toInt = (((Int32.ofInt v &&& Int32.ofInt 255).toBitVec).toNat : Int) := by
    show ((Int32.ofInt v &&& Int32.ofInt 255).toBitVec).toInt = _
    rw [BitVec.toInt_eq_toNat_of_lt (by omega)]
  rw [t]
  omega
def byA (a k : Int) : Int := bAnd (bShr a (24 - 8 * k)) 255
/-- what the class's text is, so far -/
def TpC (h0 h : HP) (n : Int) (g : Int → Int) : Prop := h 11 0 1 = n ∧ (∀ j, h 45 0 j = g j) ∧ (∀ k, k ≠ 11 → k ≠ 45 → h k = h0 k) ∧ (∀ j, j ≠ 1 → h 11 0 j = h0 11 0 j)
def putG (n a : Int) (g : Int → Int) : Int → Int := fun j => if n ≤ j ∧ j < n + 4 then byA a (j - n) else g j
theorem putNumber_c {h0 h : HP} {n a : Int} {g : Int → Int} {P : HP → Prop} (q : TpC h0 h n g) (hn : 0 ≤ n ∧ n ≤ 696) (k : ∀ h', TpC h0 h' (n + 4) (putG n a g) → P h') : wX11_putNumber 0 a h P := by
  unfold wX11_putNumber
  have loop : ∀ (d : Nat) (m : Int) (hh : HP), (4 - m).toNat = d → 0 ≤ m → m ≤ 4 → TpC h0 hh (n + m) (fun j => if n ≤ j ∧ j < n + m then byA a (j - n) else g j) → wX11_putNumber_3 0 a (fun h9 => P h9) (d + 1) (24 - 8 * m) hh := by
    intro d
    induction d with
    | zero =>
      intro m hh hd m0 m1 tq
      have e : m = 4 := by omega
      subst e
      rw [wX11_putNumber_3]
      exact ⟨by omega, fun _ => k hh tq, fun z => absurd (by omega) z⟩
    | succ d ih =>
      intro m hh hd m0 m1 tq
      obtain ⟨q1, q2, q3, q4⟩ := tq
      have hd1 : (4 - (m + 1)).toNat = d := by omega
      rw [wX11_putNumber_3, q1]
      refine ⟨by omega, fun z => absurd z (by omega), fun _ => ⟨by omega, fun z => absurd z (by omega), fun _ => ⟨by omega, fun h5 e5 h7 e7 => ?_⟩⟩⟩
      unfold wX11_putNumber_43
      have ih' := ih (m + 1) h7 hd1 (by omega) (by omega) ⟨?_, fun j => ?_, fun k k1 k2 => ?_, fun j hj => ?_⟩
      · rw [show 24 - 8 * m + -8 = 24 - 8 * (m + 1) by omega]; exact ih'
      · rw [e7, up_eq, e5, up_k (by decide), q1]; omega
      · rw [e7, up_k (by decide), e5, up_ji, q2]
        show _ = if n ≤ j ∧ j < n + (m + 1) then byA a (j - n) else g j
        by_cases z : j = n + m
        · rw [if_pos z, if_pos (by omega), z, show n + m - n = m by omega]
          exact byte_eq (by omega)
        · rw [if_neg z]
          show (if n ≤ j ∧ j < n + m then byA a (j - n) else g j) = _
          by_cases y : n ≤ j ∧ j < n + m
          · rw [if_pos y, if_pos (by omega)]
          · rw [if_neg y, if_neg (by omega)]
      · rw [e7, up_k k1, e5, up_k k2]; exact q3 k k1 k2
      · rw [e7, up_j hj, e5, up_k (by decide)]; exact q4 j hj
  obtain ⟨q1, q2, q3, q4⟩ := q
  exact ⟨_, loop 4 0 h rfl (by omega) (by omega) ⟨by rw [q1]; omega, fun j => by rw [q2]; exact (if_neg (by omega)).symm, q3, q4⟩⟩
def argA (a b c d e i : Int) : Int := if i < 4 then a else if i < 8 then b else if i < 12 then c else if i < 16 then d else e
def feedT (t : TX) (a b c d e : Int) : TX := (t.1 + 20, fun j => if t.1 ≤ j ∧ j < t.1 + 20 then byA (argA a b c d e (j - t.1)) ((j - t.1) % 4) else t.2.1 j, t.2.2.1, t.2.2.2)
theorem putG5 {n a b c d e : Int} {g : Int → Int} : putG (n + 4 + 4 + 4 + 4) e (putG (n + 4 + 4 + 4) d (putG (n + 4 + 4) c (putG (n + 4) b (putG n a g)))) = fun j => if n ≤ j ∧ j < n + 20 then byA (argA a b c d e (j - n)) ((j - n) % 4) else g j := by
  funext j
  unfold putG argA
  by_cases z5 : n + 4 + 4 + 4 + 4 ≤ j ∧ j < n + 4 + 4 + 4 + 4 + 4
  · rw [if_pos z5, if_pos (by omega), if_neg (by omega), if_neg (by omega), if_neg (by omega), if_neg (by omega)]; congr 1; omega
  · rw [if_neg z5]
    by_cases z4 : n + 4 + 4 + 4 ≤ j ∧ j < n + 4 + 4 + 4 + 4
    · rw [if_pos z4, if_pos (by omega), if_neg (by omega), if_neg (by omega), if_neg (by omega), if_pos (by omega)]; congr 1; omega
    · rw [if_neg z4]
      by_cases z3 : n + 4 + 4 ≤ j ∧ j < n + 4 + 4 + 4
      · rw [if_pos z3, if_pos (by omega), if_neg (by omega), if_neg (by omega), if_pos (by omega)]; congr 1; omega
      · rw [if_neg z3]
        by_cases z2 : n + 4 ≤ j ∧ j < n + 4 + 4
        · rw [if_pos z2, if_pos (by omega), if_neg (by omega), if_pos (by omega)]; congr 1; omega
        · rw [if_neg z2]
          by_cases z1 : n ≤ j ∧ j < n + 4
          · rw [if_pos z1, if_pos (by omega), if_pos (by omega)]; congr 1; omega
          · rw [if_neg z1, if_neg (by omega)]
theorem feed_c {h : HP} {π : PL} {K a b c d e : Int} {s : SD} {im : IM} {t : TX} {P : Int → HP → Prop} (w : WA π K s im t) (ci : CI h π s im t)
    (k : ∀ h', FrCm h h' → t.1 + 20 ≤ 700 → CI h' π s im (feedT t a b c d e) → P (t.1 + 20) h') (kx : ¬ t.1 + 20 ≤ 700 → P (-1) h) : wX11_feed 0 a b c d e h P := by
  have tr := w.2.2.2.2.1
  unfold wX11_feed
  rw [show h 11 0 1 = t.1 from ci.2.2.2.1]
  refine ⟨by omega, fun z => ?_, kx⟩
  have q0 : TpC h h t.1 (h 45 0) := ⟨ci.2.2.2.1, fun _ => rfl, fun _ _ _ => rfl, fun _ _ => rfl⟩
  refine putNumber_c q0 (by omega) (fun h1 q1 => putNumber_c q1 (by omega) (fun h2 q2 => putNumber_c q2 (by omega) (fun h3 q3 => putNumber_c q3 (by omega) (fun h4 q4 => putNumber_c q4 (by omega) (fun h5 q5 => ?_)))))
  rw [putG5] at q5
  obtain ⟨r1, r2, r3, r4⟩ := q5
  rw [r1, show t.1 + 4 + 4 + 4 + 4 + 4 = t.1 + 20 by omega]
  obtain ⟨c1, c2, ⟨i1, i2⟩, t1, t2, t3, t4⟩ := ci
  have g : ∀ k, k ≠ 11 → k ≠ 45 → h5 k = h k := r3
  refine k h5 (fun k hk => g k (by omega) (by omega)) z ⟨c1.congr (fun k hk => by rw [g k (by omega) (by omega)]), c2.cg (fun k hk _ => by rw [g k (by unfold lnK at hk; omega) (by unfold lnK at hk; omega)]) (by rw [g 5 (by decide) (by decide)]) (fun k i hk _ _ => by rw [g k (by unfold lnK at hk; omega) (by unfold lnK at hk; omega)]) (fun k hk => by rw [g k (by unfold ntK at hk; omega) (by unfold ntK at hk; omega)]), ⟨by rw [r4 10 (by decide)]; exact i1, fun y => ⟨(i2 y).1.cg (fun k hk _ => by rw [g k (by unfold lnK at hk; omega) (by unfold lnK at hk; omega)]) (by rw [g 5 (by decide) (by decide)]) (fun k i hk _ _ => by rw [g k (by unfold lnK at hk; omega) (by unfold lnK at hk; omega)]) (fun k hk => by rw [g k (by unfold ntK at hk; omega) (by unfold ntK at hk; omega)]), by rw [g 47 (by decide) (by decide)]; exact (i2 y).2⟩⟩, ?_, fun j j0 j1 => ?_, by rw [r4 2 (by decide)]; exact t3, by rw [g 46 (by decide) (by decide)]; exact t4⟩
  · rw [r1]; show _ = t.1 + 20; omega
  · rw [r2]
    have j1' : j < t.1 + 20 := j1
    show (if t.1 ≤ j ∧ j < t.1 + 20 then byA (argA a b c d e (j - t.1)) ((j - t.1) % 4) else h 45 0 j) = if t.1 ≤ j ∧ j < t.1 + 20 then byA (argA a b c d e (j - t.1)) ((j - t.1) % 4) else t.2.1 j
    by_cases y : t.1 ≤ j ∧ j < t.1 + 20
    · rw [if_pos y, if_pos y]
    · rw [if_neg y, if_neg y]; exact t2 j j0 (by omega)
theorem WA.feed {π : PL} {K a b c d e : Int} {s : SD} {im : IM} {t : TX} (w : WA π K s im t) (h : t.1 + 20 ≤ 700) : WA π K s im (feedT t a b c d e) := by
  obtain ⟨w1, w2, w3, w4, w5, w6⟩ := w
  refine ⟨w1, w2, w3, w4, ?_, fun j j0 j1 => ?_⟩
  · show 0 ≤ t.1 + 20 ∧ t.1 + 20 ≤ 700; omega
  · have j1' : j < t.1 + 20 := j1
    have e : (feedT t a b c d e).2.1 j = if t.1 ≤ j ∧ j < t.1 + 20 then byA (argA a b c d e (j - t.1)) ((j - t.1) % 4) else t.2.1 j := rfl
    rw [e]
    split
    · exact byte_rng _
    · exact w6 j j0 (by omega)
