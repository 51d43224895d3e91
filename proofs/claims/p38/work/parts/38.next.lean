theorem LX.f12 {h h' : HP} {π : PL} {K : Int} {σ : ST} (x : LX h 10 π K σ) (f : FrL 12 h h') : LX h' 10 π K σ := x.fr f (by decide)
def nxS (a left : Int) (σ τ : ST) : Sum Int Int := if left - (τ 0 2 0 - σ 0 2 0) = 0 then Sum.inr (if a = 0 then τ 0 4 0 else if a = 1 then τ 0 0 0 - 1 else τ 0 3 0 - σ 0 3 0) else Sum.inl (left - (τ 0 2 0 - σ 0 2 0))
noncomputable def nextV (π : PL) (σ : ST) (i a : Int) : Int × Int := if 0 ≤ a ∧ a ≤ 2 then (if 1 ≤ i ∧ i ≤ 20 then (0, runA π (nxS a) (fun _ => -1) 400 σ i) else (2, 0)) else (1, 0)
theorem goA_at {π : PL} {K : Int} {σ : ST} (hp : PlanOK π) (inv : AInv π K σ) (hT : σ 0 0 0 ≤ 2000) {m : Nat} (hm : m ≤ 700) : AInv π K (goA π m σ) ∧ goA π m σ 0 0 0 = σ 0 0 0 + m := ⟨(goA_inv hp m inv (by omega)).1, (goA_inv hp m inv (by omega)).2.1⟩
theorem chosenAt_c {h : HP} {π : PL} {K i a : Int} {σ : ST} {P : Int → HP → Prop} (x : LX h 10 π K σ) (hT : σ 0 0 0 ≤ 2000) (ri : 1 ≤ i ∧ i ≤ 20) (ha : 0 ≤ a ∧ a ≤ 2) (k : ∀ h', FrL 12 h h' → P (runA π (nxS a) (fun _ => -1) 400 σ i) h') : wX2_chosenAt 0 i a h P := by
  have inv := x.2.2.1
  have t0 := inv.1
  have c0 := inv.2.2.1
  unfold wX2_chosenAt
  refine copyL_c (by decide) x.1 x.2.1 x.2.2.2 (fun h1 f1 l1 => ?_)
  have e10 : h1 6 10 1 = σ 0 0 0 := (x.f12 f1).2.2.2.1.1.1
  rw [e10]
  have loop : ∀ (d m : Nat) (l4 left : Int) (hh : HP), 400 - m ≤ d → m ≤ 400 → 0 ≤ l4 → l4 ≤ m → FrL 12 h hh → LineC hh 12 π (goA π m σ) → left = i - (goA π m σ 0 2 0 - σ 0 2 0) → left ≠ 0 → runA π (nxS a) (fun _ => -1) (400 - m) (goA π m σ) left = runA π (nxS a) (fun _ => -1) 400 σ i →
      wX2_chosenAt_26 0 i a (σ 0 0 0 + 400) (fun h12 => P (-1) h12) (fun l13 h14 => (-2147483648 ≤ a ∧ a < 2147483648) ∧ ((a = 0 → P (h14 6 12 5) h14) ∧ (¬ a = 0 → ((a = 1 → P ((h14 6 12 1) - 1) h14) ∧ (¬ a = 1 → P ((h14 6 12 4) - l13) h14))))) (d + 1) l4 hh := by
    intro d
    induction d with
    | zero =>
      intro m l4 left hh hd hm hl0 hl1 fr lc hl hn hv
      have em : m = 400 := by omega
      subst em
      have ga := (goA_at x.1 inv hT (m := 400) (by omega)).2
      have tt : hh 6 12 1 = σ 0 0 0 + 400 := by rw [lc.1.1.1, ga]; rfl
      have ev : (-1 : Int) = runA π (nxS a) (fun _ => -1) 400 σ i := by rw [← hv]; rfl
      rw [wX2_chosenAt_26, tt]
      exact ⟨by omega, fun _ => by rw [ev]; exact k hh fr, fun _ => ⟨by omega, by omega, fun _ => by rw [ev]; exact k hh fr, fun c => absurd (Int.le_refl _) c⟩⟩
    | succ d ih =>
      intro m l4 left hh hd hm hl0 hl1 fr lc hl hn hv
      have ga := goA_at x.1 inv hT (m := m) (by omega)
      have tt : hh 6 12 1 = σ 0 0 0 + m := by rw [lc.1.1.1, ga.2]
      have ends : m = 400 → P (-1) hh := by
        intro em
        subst em
        have ev : (-1 : Int) = runA π (nxS a) (fun _ => -1) 400 σ i := by rw [← hv]; rfl
        rw [ev]; exact k hh fr
      rw [wX2_chosenAt_26, tt]
      refine ⟨by omega, fun c => ends (by omega), fun c => ⟨by omega, by omega, fun c2 => ends (by omega), fun c2 => ?_⟩⟩
      have xl := x.cp fr ga.1 lc
      generalize hρ : goA π m σ = ρ at *
      refine advance_c xl (by omega) (fun h7 n f7 n1 n2 l7 q7 => ?_)
      have hs : ∀ τ : ST, (∀ k, k ≠ 0 → τ k = ρ k) → (∀ i, i ≠ 0 → i ≠ 1 → τ 0 i 0 = ρ 0 i 0) → nxS a left τ (tickA τ) = Sum.inl left := by
        intro τ _ _
        unfold nxS
        rw [tickA_0 (by decide) (by decide), show left - (τ 0 2 0 - τ 0 2 0) = left by omega, if_neg hn]
      obtain ⟨τ, g1, g2, g3, g4, g5, g6⟩ := runA_adv (fin := fun _ => -1) (D := 400 - m) (n := n) ga.1.2.1.1 q7 hs n1 (by omega)
      have gm : goA π n ρ = goA π (m + n) σ := by rw [← hρ, goA_add]
      have ga2 := goA_at x.1 inv hT (m := m + n) (by omega)
      have fr7 := fr.tr f7
      have e710 : h7 6 10 3 = σ 0 2 0 := (x.f12 fr7).2.2.2.1.1.2.2.1
      have e712 : h7 6 12 3 = unitA π τ 0 2 0 := by rw [l7.1.1.2.2.1, g5]
      have cb := ga2.1.2.2.1
      rw [← gm, g5] at cb
      have t2 := ga2.1.1
      rw [← gm, g5] at t2
      have τ2 : τ 0 2 0 = ρ 0 2 0 := g2 2 (by decide) (by decide)
      rw [e710, e712]
      refine ⟨by omega, by omega, fun c3 => ?_, fun c3 => ?_⟩
      · have st : nxS a left τ (unitA π τ) = Sum.inl (left - (unitA π τ 0 2 0 - τ 0 2 0)) := by unfold nxS; rw [if_neg (by omega)]
        rw [g6, runA_l st] at hv
        rw [g5] at l7 gm
        refine ih (m + n) (l4 + 1) (left - (unitA π τ 0 2 0 - τ 0 2 0)) h7 (by omega) (by omega) (by omega) (by omega) fr7 (by rw [← gm]; exact l7) (by rw [← gm]; omega) (by omega) ?_
        rw [← gm, ← hv, show 400 - (m + n) = 400 - m - n by omega]
      · have st : nxS a left τ (unitA π τ) = Sum.inr (if a = 0 then unitA π τ 0 4 0 else if a = 1 then unitA π τ 0 0 0 - 1 else unitA π τ 0 3 0 - τ 0 3 0) := by unfold nxS; rw [if_pos (by omega)]
        rw [g6, runA_r st] at hv
        have ln := l7.1.1
        rw [g5] at ln
        have l4' : hh 6 12 4 = τ 0 3 0 := by rw [lc.1.1.2.2.2.1, g2 3 (by decide) (by decide)]
        rw [ln.2.2.2.2.1, ln.1, ln.2.2.2.1, l4']
        refine ⟨by omega, fun d0 => ?_, fun d0 => ⟨fun d1 => ?_, fun d1 => ?_⟩⟩
        · rw [if_pos d0] at hv; rw [hv]; exact k h7 fr7
        · rw [if_neg d0, if_pos d1] at hv; rw [hv]; exact k h7 fr7
        · rw [if_neg d0, if_neg d1] at hv; rw [hv]; exact k h7 fr7
  exact ⟨_, loop 400 0 0 i h1 (by omega) (by omega) (by omega) (by omega) f1 l1 (by show i = i - (σ 0 2 0 - σ 0 2 0); omega) (by omega) rfl⟩
theorem next_c {h : HP} {π : PL} {K i a : Int} {σ : ST} {P : Int → HP → Prop} {X : Nat → HP → Prop} (x : LX h 10 π K σ) (hT : σ 0 0 0 ≤ 2000) (hi : inR i) (ha : inR a)
    (k : ∀ h' v, FrQC h h' → nextV π σ i a = (0, v) → P v h') (kx : ∀ h', FrQC h h' → nextV π σ i a = (1, 0) → X 0 h') (kx2 : ∀ h', FrQC h h' → nextV π σ i a = (2, 0) → X 1 h') : wX11_next 0 i a h P X := by
  unfold wX11_next
  refine ⟨ha, fun c => kx h (FrQC.rf h) (by unfold nextV; rw [if_neg (by omega)]), fun c => ⟨ha, fun c2 => needRange_c hi (by unfold inR; omega) (by unfold inR; omega) (fun ri => chosenAt_c x hT ri (by omega) (fun h' f => k h' _ f.q (by unfold nextV; rw [if_pos (by omega), if_pos ri]))) (fun nr => kx2 h (FrQC.rf h) (by unfold nextV; rw [if_pos (by omega), if_neg nr])), fun c2 => kx h (FrQC.rf h) (by unfold nextV; rw [if_neg (by omega)])⟩⟩
