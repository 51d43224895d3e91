def tBl (x : Int) : Prop := x = 32 ∨ x = 10
def tLe (x : Int) : Prop := 97 ≤ x ∧ x ≤ 122
def tDg (x : Int) : Prop := 48 ≤ x ∧ x ≤ 57
noncomputable def scanA (q : Int → Prop) (T : Int → Int) (n : Int) : Nat → Int
  | 0 => n
  | d + 1 => @ite Int (q (T (n - (d + 1)))) (Classical.propDecidable _) (scanA q T n d) (n - (d + 1))
noncomputable def scanF (q : Int → Prop) (T : Int → Int) (n p : Int) : Int := scanA q T n (n - p).toNat
theorem scan_end {q : Int → Prop} {T : Int → Int} {n : Int} : scanF q T n n = n := by
  unfold scanF
  rw [show (n - n).toNat = 0 by omega]; rfl
theorem scan_go {q : Int → Prop} {T : Int → Int} {n p : Int} (h : p < n) (hq : q (T p)) : scanF q T n p = scanF q T n (p + 1) := by
  unfold scanF
  obtain ⟨d, hd⟩ : ∃ d, (n - p).toNat = d + 1 := ⟨(n - p).toNat - 1, by omega⟩
  have e : n - ((d : Int) + 1) = p := by omega
  have e2 : (n - (p + 1)).toNat = d := by omega
  rw [hd, e2]
  show @ite Int (q (T (n - ((d : Int) + 1)))) (Classical.propDecidable _) _ _ = _
  rw [e, if_pos hq]
theorem scan_stop {q : Int → Prop} {T : Int → Int} {n p : Int} (h : p < n) (hq : ¬ q (T p)) : scanF q T n p = p := by
  unfold scanF
  obtain ⟨d, hd⟩ : ∃ d, (n - p).toNat = d + 1 := ⟨(n - p).toNat - 1, by omega⟩
  have e : n - ((d : Int) + 1) = p := by omega
  rw [hd]
  show @ite Int (q (T (n - ((d : Int) + 1)))) (Classical.propDecidable _) _ _ = _
  rw [e, if_neg hq]
theorem scan_rng {q : Int → Prop} {T : Int → Int} {n : Int} : ∀ (d : Nat) (p : Int), (n - p).toNat = d → p ≤ n → (p ≤ scanF q T n p ∧ scanF q T n p ≤ n) ∧ (scanF q T n p < n → ¬ q (T (scanF q T n p))) ∧ ∀ j, p ≤ j → j < scanF q T n p → q (T j) := by
  intro d
  induction d with
  | zero =>
    intro p hd hp
    have e : p = n := by omega
    subst e
    rw [scan_end]
    exact ⟨by omega, fun u => by omega, fun j j0 j1 => by omega⟩
  | succ d ih =>
    intro p hd hp
    by_cases hq : q (T p)
    · rw [scan_go (by omega) hq]
      have := ih (p + 1) (by omega) (by omega)
      refine ⟨by omega, this.2.1, fun j j0 j1 => ?_⟩
      by_cases e : j = p
      · rw [e]; exact hq
      · exact this.2.2 j (by omega) j1
    · rw [scan_stop (by omega) hq]
      exact ⟨by omega, fun _ => hq, fun j j0 j1 => by omega⟩
theorem scan_in {q : Int → Prop} {T : Int → Int} {n p : Int} (hp : p ≤ n) : p ≤ scanF q T n p ∧ scanF q T n p ≤ n := (scan_rng _ p rfl hp).1
theorem scan_up {q : Int → Prop} {T : Int → Int} {n p : Int} (hp : p < n) (hq : q (T p)) : p + 1 ≤ scanF q T n p ∧ scanF q T n p ≤ n := by
  rw [scan_go hp hq]; exact scan_in (by omega)
def numV (T : Int → Int) (a : Int) : Nat → Int
  | 0 => 0
  | k + 1 => if 3 ≤ k then 1000000 else numV T a k * 10 + T (a + k) - 48
theorem numV_rng {T : Int → Int} {a : Int} : ∀ k : Nat, (∀ j, a ≤ j → j < a + k → tDg (T j)) → (k ≤ 3 → 0 ≤ numV T a k ∧ numV T a k < 10 ^ k) ∧ (3 < k → numV T a k = 1000000) := by
  intro k
  induction k with
  | zero => intro _; exact ⟨fun _ => ⟨Int.le_refl _, by show (0 : Int) < 1; omega⟩, fun h => by omega⟩
  | succ k ih =>
    intro h
    have i := (ih (fun j j0 j1 => h j j0 (by omega))).1
    have d := h (a + k) (by omega) (by omega)
    unfold tDg at d
    refine ⟨fun hk => ?_, fun hk => ?_⟩
    · have := i (by omega)
      unfold numV
      rw [if_neg (by omega), Int.pow_succ]
      omega
    · unfold numV
      rw [if_pos (by omega)]
theorem numV_in {T : Int → Int} {a : Int} (k : Nat) (h : ∀ j, a ≤ j → j < a + k → tDg (T j)) : 0 ≤ numV T a k ∧ numV T a k ≤ 1000000 := by
  have := numV_rng k h
  by_cases c : k ≤ 3
  · have q := this.1 c
    have : k = 0 ∨ k = 1 ∨ k = 2 ∨ k = 3 := by omega
    rcases this with u | u | u | u <;> subst u <;> simp at q <;> omega
  · have := this.2 (by omega); omega
def wordAt (T : Int → Int) (a b s : Int) : Prop := b - a = strL s ∧ ∀ i, 0 ≤ i → i < strL s → T (a + i) = strC s i
noncomputable def kindW (T : Int → Int) (a b : Int) : Int :=
  @ite Int (wordAt T a b 2) (Classical.propDecidable _) 9 (@ite Int (wordAt T a b 1) (Classical.propDecidable _) 8 (@ite Int (wordAt T a b 0) (Classical.propDecidable _) 7 (@ite Int (wordAt T a b 5) (Classical.propDecidable _) 6 (@ite Int (wordAt T a b 4) (Classical.propDecidable _) 5 (@ite Int (wordAt T a b 3) (Classical.propDecidable _) 4 1)))))
theorem str_facts : ∀ s : Nat, s < 6 → (2 ≤ strL s ∧ strL s ≤ 5) ∧ (∀ i : Nat, i < 5 → 0 ≤ strC s i ∧ strC s i ≤ 122) := by decide +kernel
theorem str_first : ∀ s : Nat, s < 6 → ∀ u : Nat, u < 6 → strL s = strL u → strC s 0 = strC u 0 → s = u := by decide +kernel
theorem str_rng {s : Int} (hs : 0 ≤ s ∧ s < 6) : (2 ≤ strL s ∧ strL s ≤ 5) ∧ (∀ i, 0 ≤ i → i < strL s → 0 ≤ strC s i ∧ strC s i ≤ 122) := by
  have := str_facts s.toNat (by omega)
  have e : ((s.toNat : Nat) : Int) = s := by omega
  rw [e] at this
  refine ⟨this.1, fun i i0 i1 => ?_⟩
  have q := this.2 i.toNat (by omega)
  have e2 : ((i.toNat : Nat) : Int) = i := by omega
  rw [e2] at q
  exact q
theorem word_one {T : Int → Int} {a b s u : Int} (hs : 0 ≤ s ∧ s < 6) (hu : 0 ≤ u ∧ u < 6) (h : wordAt T a b s) (h' : wordAt T a b u) : s = u := by
  have es : ((s.toNat : Nat) : Int) = s := by omega
  have eu : ((u.toNat : Nat) : Int) = u := by omega
  have ls := (str_rng hs).1
  have lu := (str_rng hu).1
  have f := str_first s.toNat (by omega) u.toNat (by omega)
  rw [es, eu] at f
  have l : strL s = strL u := by rw [← h.1, ← h'.1]
  have c : strC s 0 = strC u 0 := by rw [← h.2 0 (Int.le_refl _) (by omega), ← h'.2 0 (Int.le_refl _) (by omega)]
  have := f l c
  omega
def kdS (s : Int) : Int := if s = 3 then 4 else if s = 4 then 5 else if s = 5 then 6 else s + 7
theorem kindW_iff {T : Int → Int} {a b s : Int} (hs : 0 ≤ s ∧ s < 6) : kindW T a b = kdS s ↔ wordAt T a b s := by
  have no : ∀ u, 0 ≤ u ∧ u < 6 → u ≠ s → wordAt T a b s → ¬ wordAt T a b u := fun u hu ne h h' => ne (word_one hu hs h' h)
  have c : s = 0 ∨ s = 1 ∨ s = 2 ∨ s = 3 ∨ s = 4 ∨ s = 5 := by omega
  constructor
  · intro h
    unfold kindW at h
    by_cases h2 : wordAt T a b 2
    · rw [if_pos h2] at h; rcases c with u | u | u | u | u | u <;> subst u <;> first | exact h2 | (exact absurd h (by decide))
    · rw [if_neg h2] at h
      by_cases h1 : wordAt T a b 1
      · rw [if_pos h1] at h; rcases c with u | u | u | u | u | u <;> subst u <;> first | exact h1 | (exact absurd h (by decide))
      · rw [if_neg h1] at h
        by_cases h0 : wordAt T a b 0
        · rw [if_pos h0] at h; rcases c with u | u | u | u | u | u <;> subst u <;> first | exact h0 | (exact absurd h (by decide))
        · rw [if_neg h0] at h
          by_cases h5 : wordAt T a b 5
          · rw [if_pos h5] at h; rcases c with u | u | u | u | u | u <;> subst u <;> first | exact h5 | (exact absurd h (by decide))
          · rw [if_neg h5] at h
            by_cases h4 : wordAt T a b 4
            · rw [if_pos h4] at h; rcases c with u | u | u | u | u | u <;> subst u <;> first | exact h4 | (exact absurd h (by decide))
            · rw [if_neg h4] at h
              by_cases h3 : wordAt T a b 3
              · rw [if_pos h3] at h; rcases c with u | u | u | u | u | u <;> subst u <;> first | exact h3 | (exact absurd h (by decide))
              · rw [if_neg h3] at h; rcases c with u | u | u | u | u | u <;> subst u <;> exact absurd h (by decide)
  · intro h
    unfold kindW
    rcases c with u | u | u | u | u | u <;> subst u
    · rw [if_neg (no 2 (by omega) (by decide) h), if_neg (no 1 (by omega) (by decide) h), if_pos h]; rfl
    · rw [if_neg (no 2 (by omega) (by decide) h), if_pos h]; rfl
    · rw [if_pos h]; rfl
    · rw [if_neg (no 2 (by omega) (by decide) h), if_neg (no 1 (by omega) (by decide) h), if_neg (no 0 (by omega) (by decide) h), if_neg (no 5 (by omega) (by decide) h), if_neg (no 4 (by omega) (by decide) h), if_pos h]; rfl
    · rw [if_neg (no 2 (by omega) (by decide) h), if_neg (no 1 (by omega) (by decide) h), if_neg (no 0 (by omega) (by decide) h), if_neg (no 5 (by omega) (by decide) h), if_pos h]; rfl
    · rw [if_neg (no 2 (by omega) (by decide) h), if_neg (no 1 (by omega) (by decide) h), if_neg (no 0 (by omega) (by decide) h), if_pos h]; rfl
theorem kindW_rng {T : Int → Int} {a b : Int} : kindW T a b = 1 ∨ (4 ≤ kindW T a b ∧ kindW T a b ≤ 9) := by
  unfold kindW
  split
  · omega
  · split
    · omega
    · split
      · omega
      · split
        · omega
        · split
          · omega
          · split <;> omega
abbrev TK : Type := Int × Int × Int × Int
noncomputable def tokB (T : Int → Int) (n a : Int) : TK :=
  if n ≤ a then (a, a, 0, 0) else @ite TK (tLe (T a)) (Classical.propDecidable _) (a, scanF tLe T n a, kindW T a (scanF tLe T n a), 0)
    (@ite TK (tDg (T a)) (Classical.propDecidable _) (a, scanF tDg T n a, 2, numV T a (scanF tDg T n a - a).toNat) (a, a + 1, if T a = 59 then 3 else 1, 0))
noncomputable def tokA (T : Int → Int) (n p : Int) : TK := tokB T n (scanF tBl T n p)
theorem tokB_rng {T : Int → Int} {n a : Int} (h : a ≤ n) : (tokB T n a).1 = a ∧ (a ≤ (tokB T n a).2.1 ∧ (tokB T n a).2.1 ≤ n) ∧ (0 ≤ (tokB T n a).2.2.1 ∧ (tokB T n a).2.2.1 ≤ 9) ∧ ((tokB T n a).2.2.1 ≠ 0 → a < (tokB T n a).2.1) ∧ (0 ≤ (tokB T n a).2.2.2 ∧ (tokB T n a).2.2.2 ≤ 1000000) := by
  unfold tokB
  by_cases c : n ≤ a
  · rw [if_pos c]
    exact ⟨rfl, ⟨Int.le_refl _, h⟩, by show (0 : Int) ≤ 0 ∧ (0 : Int) ≤ 9; omega, fun u => absurd rfl u, by show (0 : Int) ≤ 0 ∧ (0 : Int) ≤ 1000000; omega⟩
  · rw [if_neg c]
    by_cases l : tLe (T a)
    · rw [if_pos l]
      have u := scan_up (n := n) (by omega) l
      have k := kindW_rng (T := T) (a := a) (b := scanF tLe T n a)
      exact ⟨rfl, ⟨by show a ≤ scanF tLe T n a; omega, u.2⟩, by show 0 ≤ kindW T a (scanF tLe T n a) ∧ kindW T a (scanF tLe T n a) ≤ 9; omega, fun _ => by show a < scanF tLe T n a; omega, by show (0 : Int) ≤ 0 ∧ (0 : Int) ≤ 1000000; omega⟩
    · rw [if_neg l]
      by_cases g : tDg (T a)
      · rw [if_pos g]
        have u := scan_up (n := n) (by omega) g
        have r := (scan_rng (q := tDg) (T := T) (n := n) _ a rfl h).2.2
        exact ⟨rfl, ⟨by show a ≤ scanF tDg T n a; omega, u.2⟩, by show (0 : Int) ≤ 2 ∧ (2 : Int) ≤ 9; omega, fun _ => by show a < scanF tDg T n a; omega, numV_in _ (fun j j0 j1 => r j j0 (by omega))⟩
      · rw [if_neg g]
        refine ⟨rfl, ⟨by show a ≤ a + 1; omega, by show a + 1 ≤ n; omega⟩, ?_, fun _ => by show a < a + 1; omega, by show (0 : Int) ≤ 0 ∧ (0 : Int) ≤ 1000000; omega⟩
        show 0 ≤ (if T a = 59 then (3 : Int) else 1) ∧ (if T a = 59 then (3 : Int) else 1) ≤ 9
        split <;> omega
theorem tokA_rng {T : Int → Int} {n p : Int} (h : p ≤ n) : (p ≤ (tokA T n p).1 ∧ (tokA T n p).1 ≤ (tokA T n p).2.1 ∧ (tokA T n p).2.1 ≤ n) ∧ (0 ≤ (tokA T n p).2.2.1 ∧ (tokA T n p).2.2.1 ≤ 9) ∧ ((tokA T n p).2.2.1 ≠ 0 → (tokA T n p).1 < (tokA T n p).2.1) ∧ (0 ≤ (tokA T n p).2.2.2 ∧ (tokA T n p).2.2.2 ≤ 1000000) := by
  have s := scan_in (q := tBl) (T := T) h
  have r := tokB_rng (T := T) s.2
  unfold tokA
  rw [r.1]
  exact ⟨by omega, r.2.2.1, r.2.2.2.1, r.2.2.2.2⟩
