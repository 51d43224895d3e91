theorem upr_eq {h : HP} {k : Nat} {i : Int} {g : Int → Int} : upr h k i g k i = g := by
  unfold upr; rw [if_pos rfl]; show (if i = i then g else h k i) = g; rw [if_pos rfl]
theorem upr_k {h : HP} {k k' : Nat} {i : Int} {g : Int → Int} (hk : k' ≠ k) : upr h k i g k' = h k' := by
  unfold upr; rw [if_neg hk]
theorem upr_i {h : HP} {k k' : Nat} {i i' : Int} {g : Int → Int} (hi : i' ≠ i) : upr h k i g k' i' = h k' i' := by
  unfold upr
  by_cases hk : k' = k
  · rw [if_pos hk, hk]; show (if i' = i then g else h k i') = h k i'; rw [if_neg hi]
  · rw [if_neg hk]
theorem up_eq {h : HP} {k : Nat} {i j v : Int} : up h k i j v k i j = v := by
  unfold up; rw [upr_eq]; show (if j = j then v else h k i j) = v; rw [if_pos rfl]
theorem up_j {h : HP} {k : Nat} {i j v j' : Int} (hj : j' ≠ j) : up h k i j v k i j' = h k i j' := by
  unfold up; rw [upr_eq]; show (if j' = j then v else h k i j') = h k i j'; rw [if_neg hj]
theorem up_ji {h : HP} {k : Nat} {i j v j' : Int} : up h k i j v k i j' = if j' = j then v else h k i j' := by
  unfold up; rw [upr_eq]
theorem up_k {h : HP} {k k' : Nat} {i j v : Int} (hk : k' ≠ k) : up h k i j v k' = h k' := upr_k hk
theorem up_i {h : HP} {k k' : Nat} {i i' j v : Int} (hi : i' ≠ i) : up h k i j v k' i' = h k' i' := upr_i hi
theorem up_kj {h : HP} {k k' : Nat} {i i' j v j' : Int} (hn : ¬ (k' = k ∧ i' = i ∧ j' = j)) : up h k i j v k' i' j' = h k' i' j' := by
  by_cases hk : k' = k
  · by_cases hi : i' = i
    · subst hk; subst hi; exact up_j (fun e => hn ⟨rfl, rfl, e⟩)
    · rw [up_i hi]
  · rw [up_k hk]
def rUp (a b : Int) : Int := (a + b - 1) / b
def reachA (m1 d m2 x y n : Int) : Int := if n ≤ y then x else if 100 * (n - y) ≤ m1 * d then x + rUp (100 * (n - y)) m1 else x + d + rUp (100 * (n - y) - m1 * d) m2
theorem rUp_le {a b z : Int} (hb : 0 < b) : rUp a b ≤ z ↔ a ≤ b * z := by
  unfold rUp
  rw [← Int.lt_add_one_iff, Int.ediv_lt_iff_lt_mul hb]
  have : (z + 1) * b = b * z + b := by rw [Int.add_mul, Int.one_mul, Int.mul_comm]
  rw [this]
  omega
theorem rUp_self {a b : Int} (hb : 0 < b) : a ≤ b * rUp a b := (rUp_le hb).mp (Int.le_refl _)
theorem rUp_mono {a a' b : Int} (hb : 0 < b) (h : a ≤ a') : rUp a b ≤ rUp a' b := (rUp_le hb).mpr (Int.le_trans h (rUp_self hb))
theorem rUp_add {a b x : Int} (hb : 0 < b) : rUp (a + b * x) b = rUp a b + x := by
  unfold rUp
  rw [show a + b * x + b - 1 = (a + b - 1) + b * x by omega, Int.add_mul_ediv_left _ _ (by omega)]
theorem rUp_zero {b : Int} (hb : 0 < b) : rUp 0 b = 0 := by
  unfold rUp
  exact Int.ediv_eq_zero_of_lt (by omega) (by omega)
theorem rUp_nonneg {a b : Int} (hb : 0 < b) (h : 0 ≤ a) : 0 ≤ rUp a b := by
  have := rUp_mono hb h
  rw [rUp_zero hb] at this
  exact this
theorem mul_ge_self {a b : Int} (hb : 0 < b) (h : 0 ≤ a) : a ≤ b * a := by
  have h1 : 0 ≤ (b - 1) * a := Int.mul_nonneg (by omega) h
  rw [Int.sub_mul, Int.one_mul] at h1
  omega
theorem rUp_le_self {a b : Int} (hb : 0 < b) (h : 0 ≤ a) : rUp a b ≤ a := (rUp_le hb).mpr (mul_ge_self hb h)
theorem rUp_grow {a b k : Int} (hb : 0 < b) (hk : 0 ≤ k) : rUp (a + k) b ≤ rUp a b + k := by
  rw [rUp_le hb, Int.mul_add]
  have h1 := rUp_self (a := a) hb
  have h2 := mul_ge_self hb hk
  omega
theorem reachA_le {m1 d m2 x y n : Int} (h : n ≤ y) : reachA m1 d m2 x y n = x := by unfold reachA; rw [if_pos h]
theorem reachA_one {m1 d m2 x y n : Int} (h : ¬ n ≤ y) (h1 : 100 * (n - y) ≤ m1 * d) : reachA m1 d m2 x y n = x + rUp (100 * (n - y)) m1 := by unfold reachA; rw [if_neg h, if_pos h1]
theorem reachA_two {m1 d m2 x y n : Int} (h : ¬ n ≤ y) (h1 : ¬ 100 * (n - y) ≤ m1 * d) : reachA m1 d m2 x y n = x + d + rUp (100 * (n - y) - m1 * d) m2 := by unfold reachA; rw [if_neg h, if_neg h1]
theorem m1_pos {m1 d p : Int} (hm1 : 0 ≤ m1) (hp : 0 < p) (h : p ≤ m1 * d) : 0 < m1 := by
  rcases Int.lt_or_eq_of_le hm1 with q | q
  · exact q
  · rw [← q, Int.zero_mul] at h; omega
theorem reachA_x {m1 d m2 x y n : Int} (hm1 : 0 ≤ m1) (hd : 0 ≤ d) (hm2 : 0 < m2) : x ≤ reachA m1 d m2 x y n := by
  by_cases h : n ≤ y
  · rw [reachA_le h]; exact Int.le_refl _
  · by_cases h1 : 100 * (n - y) ≤ m1 * d
    · rw [reachA_one h h1]
      have := rUp_nonneg (a := 100 * (n - y)) (m1_pos hm1 (by omega) h1) (by omega)
      omega
    · rw [reachA_two h h1]
      have := rUp_nonneg (a := 100 * (n - y) - m1 * d) hm2 (by omega)
      omega
theorem reachA_mono {m1 d m2 x y n n' : Int} (hm1 : 0 ≤ m1) (hd : 0 ≤ d) (hm2 : 0 < m2) (hn : n ≤ n') : reachA m1 d m2 x y n ≤ reachA m1 d m2 x y n' := by
  by_cases h : n ≤ y
  · rw [reachA_le h]; exact reachA_x hm1 hd hm2
  · have h' : ¬ n' ≤ y := by omega
    by_cases h1 : 100 * (n - y) ≤ m1 * d
    · have hp := m1_pos hm1 (by omega) h1
      rw [reachA_one h h1]
      by_cases h2 : 100 * (n' - y) ≤ m1 * d
      · rw [reachA_one h' h2]
        have := rUp_mono (a := 100 * (n - y)) (a' := 100 * (n' - y)) hp (by omega)
        omega
      · rw [reachA_two h' h2]
        have e1 := rUp_nonneg (a := 100 * (n' - y) - m1 * d) hm2 (by omega)
        have e2 := (rUp_le (z := d) hp).mpr h1
        omega
    · have h2 : ¬ 100 * (n' - y) ≤ m1 * d := by omega
      rw [reachA_two h h1, reachA_two h' h2]
      have := rUp_mono (a := 100 * (n - y) - m1 * d) (a' := 100 * (n' - y) - m1 * d) hm2 (by omega)
      omega
theorem reachA_grow {m1 d m2 x y n k : Int} (hm1 : 0 ≤ m1) (hd : 0 ≤ d) (hd2 : d ≤ 30) (hm2 : 0 < m2) (hn : y ≤ n) (hk : 0 ≤ k) : reachA m1 d m2 x y (n + k) ≤ reachA m1 d m2 x y n + (100 * k + 31) := by
  by_cases h' : n + k ≤ y
  · rw [reachA_le h', reachA_le (by omega)]; omega
  · by_cases h2 : 100 * (n + k - y) ≤ m1 * d
    · have hp := m1_pos hm1 (by omega) h2
      rw [reachA_one h' h2]
      by_cases h : n ≤ y
      · rw [reachA_le h]
        have := rUp_le_self (a := 100 * (n + k - y)) hp (by omega)
        omega
      · rw [reachA_one h (by omega)]
        have := rUp_grow (a := 100 * (n - y)) (k := 100 * k) hp (by omega)
        rw [show 100 * (n - y) + 100 * k = 100 * (n + k - y) by omega] at this
        omega
    · rw [reachA_two h' h2]
      by_cases h : n ≤ y
      · rw [reachA_le h]
        have := rUp_le_self (a := 100 * (n + k - y) - m1 * d) hm2 (by omega)
        have e : 0 ≤ m1 * d := Int.mul_nonneg hm1 hd
        omega
      · by_cases h1 : 100 * (n - y) ≤ m1 * d
        · rw [reachA_one h h1]
          have e1 := rUp_le_self (a := 100 * (n + k - y) - m1 * d) hm2 (by omega)
          have e2 := rUp_nonneg (a := 100 * (n - y)) (m1_pos hm1 (by omega) h1) (by omega)
          omega
        · rw [reachA_two h h1]
          have := rUp_grow (a := 100 * (n - y) - m1 * d) (k := 100 * k) hm2 (by omega)
          rw [show 100 * (n - y) - m1 * d + 100 * k = 100 * (n + k - y) - m1 * d by omega] at this
          omega
/-- of all whose first piece lies behind, or whose curve is straight, one formula -/
theorem reachA_form {m1 d m2 x y n : Int} (hm1 : 0 ≤ m1) (hd : 0 ≤ d) (hm2 : 0 < m2) (hn : y ≤ n) (hp : d = 0 ∨ m1 = m2 ∨ (y < n ∧ m1 * d ≤ 100 * (n - y))) : reachA m1 d m2 x y n = d + rUp (100 * n - m1 * d + (m2 * x - 100 * y)) m2 := by
  rw [show 100 * n - m1 * d + (m2 * x - 100 * y) = (100 * (n - y) - m1 * d) + m2 * x by omega, rUp_add hm2]
  by_cases h : n ≤ y
  · rw [reachA_le h]
    have e : n = y := by omega
    subst e
    rcases hp with q | q | q
    · subst q
      rw [Int.mul_zero, show 100 * (n - n) - 0 = (0 : Int) by omega, rUp_zero hm2]; omega
    · subst q
      rw [show 100 * (n - n) - m1 * d = 0 + m1 * (-d) by rw [Int.mul_neg]; omega, rUp_add hm2, rUp_zero hm2]; omega
    · omega
  · by_cases h1 : 100 * (n - y) ≤ m1 * d
    · rw [reachA_one h h1]
      rcases hp with q | q | q
      · subst q; rw [Int.mul_zero] at h1; omega
      · subst q
        rw [show 100 * (n - y) - m1 * d = 100 * (n - y) + m1 * (-d) by rw [Int.mul_neg]; omega, rUp_add hm2]; omega
      · have hq := m1_pos hm1 (by omega) h1
        have e : 100 * (n - y) = m1 * d := by omega
        rw [e, show m1 * d - m1 * d = 0 by omega, rUp_zero hm2, show m1 * d = 0 + m1 * d by omega, rUp_add hq, rUp_zero hq]; omega
    · rw [reachA_two h h1]; omega
theorem reachA_dom {m1 d m2 x y x' y' n : Int} (hm1 : 0 ≤ m1) (hd : 0 ≤ d) (hm2 : 0 < m2) (hn : y ≤ n) (hn' : y' ≤ n) (hp : d = 0 ∨ m1 = m2 ∨ (y < n ∧ m1 * d ≤ 100 * (n - y))) (hp' : d = 0 ∨ m1 = m2 ∨ (y' < n ∧ m1 * d ≤ 100 * (n - y')))
    (ht : m2 * x - 100 * y ≤ m2 * x' - 100 * y') : reachA m1 d m2 x y n ≤ reachA m1 d m2 x' y' n := by
  rw [reachA_form hm1 hd hm2 hn hp, reachA_form hm1 hd hm2 hn' hp']
  have := rUp_mono (a := 100 * n - m1 * d + (m2 * x - 100 * y)) (a' := 100 * n - m1 * d + (m2 * x' - 100 * y')) hm2 (by omega)
  omega
theorem reachA_xle {m1 d m2 x x' y n : Int} (h : x ≤ x') : reachA m1 d m2 x y n ≤ reachA m1 d m2 x' y n := by
  by_cases q : n ≤ y
  · rw [reachA_le q, reachA_le q]; exact h
  · by_cases h1 : 100 * (n - y) ≤ m1 * d
    · rw [reachA_one q h1, reachA_one q h1]; omega
    · rw [reachA_two q h1, reachA_two q h1]; omega
/-- as the class reckons it -/
theorem reachA_of {m1 d m2 x y n b t : Int} (hm1 : 0 ≤ m1) (hd : 0 ≤ d) (hm2 : 0 < m2) (hb : b = m1 * d)
    (ht : (100 * (n - y) ≤ b → ((100 * (n - y) ≤ 0 → t = x) ∧ (¬ 100 * (n - y) ≤ 0 → ((m1 ≤ 0 → t = x) ∧ (¬ m1 ≤ 0 → t = x + (((100 * (n - y)) + m1) - 1) / m1))))) ∧
      (¬ 100 * (n - y) ≤ b → ((m2 ≤ 0 → ((100 * (n - y) ≤ 0 → t = x) ∧ (¬ 100 * (n - y) ≤ 0 → ((m1 ≤ 0 → t = x) ∧ (¬ m1 ≤ 0 → t = x + (((100 * (n - y)) + m1) - 1) / m1))))) ∧ (¬ m2 ≤ 0 → t = x + (d + (((100 * (n - y)) - b) + m2 - 1) / m2))))) : t = reachA m1 d m2 x y n := by
  subst hb
  have e0 : 0 ≤ m1 * d := Int.mul_nonneg hm1 hd
  by_cases h : n ≤ y
  · rw [reachA_le h]
    exact (ht.1 (by omega)).1 (by omega)
  · by_cases h1 : 100 * (n - y) ≤ m1 * d
    · rw [reachA_one h h1]
      have hp := m1_pos hm1 (by omega) h1
      exact ((ht.1 h1).2 (by omega)).2 (by omega)
    · rw [reachA_two h h1]
      have := (ht.2 h1).2 (by omega)
      unfold rUp
      omega
def IsMax (cnt : Int) (f : Int → Int) (m : Int) : Prop := 0 ≤ m ∧ (∀ i, 0 ≤ i → i < cnt → f i ≤ m) ∧ (m = 0 ∨ ∃ i, 0 ≤ i ∧ i < cnt ∧ f i = m)
theorem IsMax.uniq {cnt : Int} {f : Int → Int} {m m' : Int} (h : IsMax cnt f m) (h' : IsMax cnt f m') : m = m' := by
  obtain ⟨a1, a2, a3⟩ := h
  obtain ⟨b1, b2, b3⟩ := h'
  rcases a3 with q | ⟨i, i1, i2, i3⟩
  · rcases b3 with r | ⟨j, j1, j2, j3⟩
    · omega
    · have := a2 j j1 j2; omega
  · have k1 := b2 i i1 i2
    rcases b3 with r | ⟨j, j1, j2, j3⟩
    · omega
    · have := a2 j j1 j2; omega
theorem IsMax.zero {f : Int → Int} : IsMax 0 f 0 := ⟨Int.le_refl _, fun i h1 h2 => by omega, Or.inl rfl⟩
/-- another row of places: each elder one lies under one of the new ones or under v, each new one is an elder one's or v -/
theorem IsMax.move {cnt cnt' : Int} {f f' : Int → Int} {m v : Int} (h : IsMax cnt f m) (hv : 0 ≤ v) (h1 : ∀ i, 0 ≤ i → i < cnt → (f i ≤ v ∨ ∃ j, 0 ≤ j ∧ j < cnt' ∧ f i ≤ f' j)) (h2 : ∀ j, 0 ≤ j → j < cnt' → (f' j ≤ v ∨ ∃ i, 0 ≤ i ∧ i < cnt ∧ f' j ≤ f i)) (h3 : v = 0 ∨ ∃ j, 0 ≤ j ∧ j < cnt' ∧ v ≤ f' j) : IsMax cnt' f' (max m v) := by
  obtain ⟨a1, a2, a3⟩ := h
  have key : ∀ j, 0 ≤ j → j < cnt' → f' j ≤ max m v := by
    intro j j1 j2
    rcases h2 j j1 j2 with q | ⟨i, i1, i2, i3⟩
    · omega
    · have := a2 i i1 i2; omega
  refine ⟨by omega, key, ?_⟩
  by_cases hm : m ≤ v
  · rw [Int.max_eq_right hm] at key ⊢
    rcases h3 with q | ⟨j, j1, j2, j3⟩
    · exact Or.inl q
    · exact Or.inr ⟨j, j1, j2, by have := key j j1 j2; omega⟩
  · rw [Int.max_eq_left (by omega)]
    rcases a3 with q | ⟨i, i1, i2, i3⟩
    · omega
    · rcases h1 i i1 i2 with q | ⟨j, j1, j2, j3⟩
      · omega
      · have := key j j1 j2
        exact Or.inr ⟨j, j1, j2, by omega⟩
theorem IsMax.congr {cnt : Int} {f f' : Int → Int} {m : Int} (h : IsMax cnt f m) (e : ∀ i, 0 ≤ i → i < cnt → f' i = f i) : IsMax cnt f' m := by
  obtain ⟨a1, a2, a3⟩ := h
  refine ⟨a1, fun i h1 h2 => by rw [e i h1 h2]; exact a2 i h1 h2, ?_⟩
  rcases a3 with q | ⟨i, i1, i2, i3⟩
  · exact Or.inl q
  · exact Or.inr ⟨i, i1, i2, by rw [e i i1 i2]; exact i3⟩
