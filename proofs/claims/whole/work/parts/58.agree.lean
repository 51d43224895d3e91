/-! what is noted, and another size of a flow -/
def okN (π : PL) (σ ρ : ST) (m : Int) (nt : PL) : Prop := ∀ j, 0 ≤ j → j < m → goA π (nt 1 j).toNat ρ 1 (nt 0 j) 0 - σ 1 (nt 0 j) 0 = nt 2 j
def sizA (σ : ST) (f z : Int) : ST := up σ 8 f 0 z
theorem sizA_k {σ : ST} {f z : Int} {k : Nat} (h : k ≠ 8) : sizA σ f z k = σ k := up_k h
theorem sizA_inv {π : PL} {K f z : Int} {σ : ST} (inv : AInv π K σ) (hz : 1 ≤ z ∧ z ≤ 64) : AInv π K (sizA σ f z) := by
  obtain ⟨i1, i2, i3, i4, i5, i6, i7, i8, i9, i10⟩ := inv
  have g : ∀ k, k ≠ 8 → sizA σ f z k = σ k := fun k hk => sizA_k hk
  unfold AInv classOK
  rw [g 0 (by decide), g 1 (by decide), g 2 (by decide), g 3 (by decide), g 4 (by decide), g 5 (by decide), g 6 (by decide), g 7 (by decide), g 11 (by decide), g 12 (by decide)]
  refine ⟨i1, i2, i3, i4, i5, i6, i7, i8, fun f' f0 f1 => ?_, fun s s0 s1 => ?_⟩
  · unfold sizA
    by_cases y : f' = f
    · rw [y, up_eq]; exact hz
    · rw [up_i y]; exact i9 f' f0 f1
  · have o := i10 s s0 s1
    unfold slotOK at *
    rw [cur_eq (g 1 (by decide)) (g 2 (by decide)), g 0 (by decide), g 9 (by decide), g 10 (by decide), g 11 (by decide), g 12 (by decide), g 13 (by decide)]
    exact o
theorem agrees_c {h : HP} {π : PL} {K m : Int} {nt : PL} {σ ρ : ST} {P : Int → HP → Prop} (x : LX h 10 π K σ) (xl : LX h 12 π K ρ) (hn : NotesC h 5 m nt) (ok : noteOK π m nt) (ht : ρ 0 0 0 = σ 0 0 0) (hT : σ 0 0 0 ≤ 2000) (k : ∀ y h', (y = 0 ∨ y = 1) → (y = 1 ↔ okN π σ ρ m nt) → FrL 12 h h' → P y h') : wX4_agrees 0 h P := by
  have n12 := x.1.1.2.1
  have inv := xl.2.2.1
  have t0 := inv.1
  obtain ⟨a1, a2, a3, a4, a5⟩ := id hn
  unfold wX4_agrees
  have val : ∀ i, 0 ≤ i → i < m → ∃ j, 0 ≤ j ∧ j < m ∧ h 34 5 i = nt 0 j ∧ h 35 5 i = nt 1 j ∧ h 36 5 i = nt 2 j := fun i i0 i1 => a3 i i0 i1
  have rng : ∀ i, 0 ≤ i → i < m → (0 ≤ h 34 5 i ∧ h 34 5 i < π 0 0) ∧ (0 ≤ h 35 5 i ∧ h 35 5 i ≤ 100) ∧ (0 ≤ h 36 5 i ∧ h 36 5 i ≤ 9999) := by
    intro i i0 i1
    obtain ⟨j, j0, j1, e0, e1, e2⟩ := val i i0 i1
    rw [e0, e1, e2]; exact ok j j0 j1
  have loop : ∀ (d : Nat) (i u : Int) (hh : HP), (m - i).toNat = d → 0 ≤ i → i ≤ m → FrL 12 h hh → (0 ≤ u ∧ u ≤ 100) → (∀ i', i ≤ i' → i' < m → u ≤ h 35 5 i') → LineC hh 12 π (goA π u.toNat ρ) → (∀ i', 0 ≤ i' → i' < i → goA π (h 35 5 i').toNat ρ 1 (h 34 5 i') 0 - σ 1 (h 34 5 i') 0 = h 36 5 i') →
      wX4_agrees_2 0 (fun h14 => P 1 h14) (fun h15 => P 0 h15) (d + 1) i hh := by
    intro d
    induction d with
    | zero =>
      intro i u hh hd i0 i1 fr hu hs lc hok
      have e : i = m := by omega
      subst e
      rw [wX4_agrees_2, fr 7 5 (by omega), a1]
      refine ⟨by omega, by omega, fun _ => k 1 hh (Or.inr rfl) ⟨fun _ j j0 j1 => ?_, fun _ => rfl⟩ fr, fun z => absurd (Int.le_refl _) z⟩
      have e4 := a4 j j0 j1
      obtain ⟨i', i'0, i'1, e0, e1, e2⟩ := e4
      have := hok i' i'0 i'1
      rw [e0, e1, e2] at this
      exact this
    | succ d ih =>
      intro i u hh hd i0 i1 fr hu hs lc hok
      have hd1 : (m - (i + 1)).toNat = d := by omega
      have r := rng i i0 (by omega)
      have g := goA_at x.1 inv (by omega) (m := u.toNat) (by omega)
      have x10 := x.f12 fr
      have e10 : hh 6 10 1 = σ 0 0 0 := x10.2.2.2.1.1.1
      have e12 : hh 6 12 1 = σ 0 0 0 + u := by rw [lc.1.1.1, g.2]; omega
      have us := hs i (Int.le_refl _) (by omega)
      rw [wX4_agrees_2, fr 7 5 (by omega), a1, fr 35 5 (by omega), e10, e12]
      refine ⟨by omega, by omega, fun z => absurd z (by omega), fun _ => ⟨by omega, ?_⟩⟩
      refine pass_c (x.cp fr g.1 lc) (by omega) (fun h5 f5 l5 => ?_)
      have fr5 := fr.tr f5
      have eu : goA π (σ 0 0 0 + h 35 5 i - (σ 0 0 0 + u)).toNat (goA π u.toNat ρ) = goA π (h 35 5 i).toNat ρ := by rw [← goA_add]; congr 1; omega
      rw [eu] at l5
      have g5 := goA_at x.1 inv (by omega) (m := (h 35 5 i).toNat) (by omega)
      rw [fr5 34 5 (by omega), fr5 36 5 (by omega), (l5.1.2.1 _ r.1.1 r.1.2).1, ((x.f12 fr5).2.2.2.1.2.1 _ r.1.1 r.1.2).1]
      have b1 := (x.2.2.1.2.2.2.2.2.2.1 _ r.1.1 r.1.2).1
      have b2 := (g5.1.2.2.2.2.2.2.1 _ r.1.1 r.1.2).1
      have br := x.2.2.1.2.1
      have br2 := g5.1.2.1
      have tr2 := g5.1.1
      refine ⟨by omega, by omega, by omega, by omega, by omega, by omega, fun z => ?_, fun z => k 0 h5 (Or.inl rfl) ⟨fun w => by omega, fun w => ?_⟩ fr5⟩
      · refine ih (i + 1) (h 35 5 i) h5 hd1 (by omega) (by omega) fr5 r.2.1 (fun i' j0 j1 => a5 i i' i0 (by omega) j1) l5 (fun i' j0 j1 => ?_)
        by_cases y : i' = i
        · rw [y]; exact z
        · exact hok i' j0 (by omega)
      · obtain ⟨j, j0, j1, e0, e1, e2⟩ := val i i0 (by omega)
        have := w j j0 j1
        rw [e0, e1, e2] at z
        exact absurd this z
  have := loop m.toNat 0 0 h (by omega) (by omega) (by omega) (FrL.rf _ _) (by omega) (fun i' i0 i1 => (rng i' i0 i1).2.1.1) xl.2.2.2 (fun i' i0 i1 => by omega)
  exact ⟨_, this⟩
