/-! storms: the class -/
theorem way_bits : ∀ n : Nat, n ≤ 5 → ∀ w : Nat, w < 2 ^ n → ∀ m : Nat, m ≤ 4 → n ≤ m → bAnd (bShr w m) 1 = 0 := by decide +kernel
theorem far_bits {n w i : Int} (hn : 1 ≤ n ∧ n ≤ 5) (w0 : 0 ≤ w) (hw : w < bShl 1 n) (hi : n ≤ i) : ∀ n', i ≤ n' → n' ≤ 4 → bAnd (bShr w n') 1 = 0 := by
  intro n' h1 h2
  have sh := shl_1 hn
  have e : ((2 ^ n.toNat : Nat) : Int) = bShl 1 n := by rw [sh.1]; push_cast; rfl
  have := way_bits n.toNat (by omega) w.toNat (by omega) n'.toNat (by omega) (by omega)
  rw [Int.toNat_of_nonneg w0, Int.toNat_of_nonneg (by omega)] at this
  exact this
theorem goA_stop {π : PL} {K : Int} {σ : ST} (hp : PlanOK π) (inv : AInv π K σ) (u : Nat) (h : σ 0 0 0 + u ≤ 2700) : goA π u σ 0 5 0 = σ 0 5 0 := (goA_inv hp u inv h).2.2.1
theorem not_now {π : PL} {K f u : Int} {σ : ST} (hp : PlanOK π) (inv : AInv π K σ) (hu : Unt π f (σ 0 0 0) u) (j : Nat) (hj : (j : Int) < u) (h : σ 0 0 0 + j ≤ 2700) : ¬ tellsNow π (goA π j σ) f := by
  intro t
  have g := goA_inv hp j inv h
  have t2 := t.2
  rw [g.2.1] at t2
  exact hu.2.1 j (by omega) hj t2
theorem is_now {π : PL} {K f u : Int} {σ : ST} (hp : PlanOK π) (inv : AInv π K σ) (hu : Unt π f (σ 0 0 0) u) (h1 : u < 1000000) (h : σ 0 0 0 + u ≤ 2700) (hb : bAnd (bShr (σ 0 5 0) f) 1 = 0) : tellsNow π (goA π u.toNat σ) f := by
  have u0 := hu.1.1
  have g := goA_inv hp u.toNat inv (by omega)
  refine ⟨?_, ?_⟩
  · rw [g.2.2.1]; exact hb
  · rw [g.2.1, Int.toNat_of_nonneg u0]; exact hu.2.2 h1
theorem u5_inv {π : PL} {K v : Int} {σ : ST} (inv : AInv π K σ) (hv : 0 ≤ v ∧ v < 256) : AInv π K (u5 v σ) := stp_inv inv hv
theorem or_rng {s f b : Int} (hs : 0 ≤ s ∧ s < 256) (hf : 0 ≤ f ∧ f < 8) (hb : b = 0 ∨ b = 1) : 0 ≤ bOr s (bShl b f) ∧ bOr s (bShl b f) < 256 := by
  have ob := or_bits s.toNat (by omega) f.toNat (by omega)
  rw [Int.toNat_of_nonneg hs.1, Int.toNat_of_nonneg hf.1] at ob
  rcases hb with b | b
  · rw [b, ob.2.1]; exact hs
  · rw [b]; exact ob.1
theorem LineC.u5 {h : HP} {L v : Int} {π : PL} {σ : ST} (q : LineC h L π σ) : LineC (up h 6 L 6 v) L π (u5 v σ) := q.num 5 (by omega)
/-- nothing is told any more -/
theorem goZ_none_left {π : PL} {K f w i u : Int} {σ : ST} (hp : PlanOK π) (inv : AInv π K σ) (d : Nat) (hT : σ 0 0 0 + d ≤ 2700) (hu : Unt π f (σ 0 0 0) u) (hd : (d : Int) ≤ u) : goZ π f w d σ i = goA π d σ := by
  have := goZ_skip (z := f) (s := w) (n := i) 0 d σ (fun j hj => not_now hp inv hu j (by omega) (by omega))
  rw [Nat.add_zero] at this
  rw [this]; rfl
theorem held_c {h : HP} {π : PL} {K f n w : Int} {σ : ST} {P : Int → HP → Prop} (x : LX h 10 π K σ) (hT : σ 0 0 0 ≤ 2000) (f0 : 0 ≤ f) (f1 : f < π 0 1) (rn : 1 ≤ n ∧ n ≤ 5) (w0 : 0 ≤ w) (hw : w < bShl 1 n) (k : ∀ h', FrL 12 h h' → P (hel π (goZ π f w 100 σ 0) 12) h') : wX0_heldBehind 0 f n w h P := by
  have inv := x.2.2.1
  have t0 := inv.1
  have n8 := x.1.2.1
  unfold wX0_heldBehind
  refine copyL_c (by decide) x.1 x.2.1 x.2.2.2 (fun h1 f1' l1 => ?_)
  have x1 := x.f12 f1'
  rw [show h1 6 10 6 = σ 0 5 0 from x1.2.2.2.1.1.2.2.2.2.2, show h1 6 10 1 = σ 0 0 0 from x1.2.2.2.1.1.1]
  have b := bAnd1_all (bShr (σ 0 5 0) f)
  generalize hG : goZ π f w 100 σ 0 = G at *
  have loop : ∀ (d : Nat) (m : Nat) (l5 i : Int) (hh : HP) (ρ : ST), (n - i).toNat = d → 0 ≤ i → i ≤ n → m ≤ 100 → FrL 12 h hh → LineC hh 12 π ρ → AInv π K ρ → ρ 0 0 0 = σ 0 0 0 + m → ρ 0 5 0 = σ 0 5 0 → (l5 = 0 ∨ l5 = 1) → (l5 = 0 → goA π (100 - m) ρ = G) → (l5 = 1 → bAnd (bShr (σ 0 5 0) f) 1 = 0 ∧ goZ π f w (100 - m) ρ i = G) →
      wX0_heldBehind_47 0 f n w (σ 0 0 0 + 100) (fun h25 => wX6_pass 12 ((σ 0 0 0 + 100) - (h25 6 12 1)) h25 (fun h26 => P (h26 29 12 12) h26)) (d + 1) l5 i hh := by
    have done : ∀ (m : Nat) (hh : HP) (ρ : ST), m ≤ 100 → FrL 12 h hh → LineC hh 12 π ρ → AInv π K ρ → ρ 0 0 0 = σ 0 0 0 + m → goA π (100 - m) ρ = G → wX6_pass 12 ((σ 0 0 0 + 100) - (hh 6 12 1)) hh (fun h26 => P (h26 29 12 12) h26) := by
      intro m hh ρ hm fr lc iv tt e
      rw [show hh 6 12 1 = σ 0 0 0 + m by rw [lc.1.1.1, tt]]
      refine pass_c (x.cp fr iv lc) (by omega) (fun h26 f26 l26 => ?_)
      rw [l26.2 12 (Or.inr rfl), show (σ 0 0 0 + 100 - (σ 0 0 0 + (m : Int))).toNat = 100 - m by omega, e]
      exact k h26 (fr.tr f26)
    intro d
    induction d with
    | zero =>
      intro m l5 i hh ρ hd i0 i1 hm fr lc iv tt s5 hl h0 h1'
      rw [wX0_heldBehind_47]
      refine ⟨by omega, by omega, fun _ => done m hh ρ hm fr lc iv tt ?_, fun z => absurd (by omega) z⟩
      rcases hl with z | z
      · exact h0 z
      · have := (h1' z).2
        rw [goZ_far _ _ _ (far_bits rn w0 hw (by omega))] at this
        exact this
    | succ d ih =>
      intro m l5 i hh ρ hd i0 i1 hm fr lc iv tt s5 hl h0 h1'
      have hd1 : (n - (i + 1)).toNat = d := by omega
      have pc : PlanC hh 1 π := (x.f12 fr).2.1
      rw [wX0_heldBehind_47, show hh 6 12 1 = σ 0 0 0 + m by rw [lc.1.1.1, tt]]
      refine ⟨by omega, by omega, fun z => absurd z (by omega), fun _ => ⟨by omega, fun z => (by have dn := done m hh ρ hm fr lc iv tt (h0 z); rw [show hh 6 12 1 = σ 0 0 0 + m by rw [lc.1.1.1, tt]] at dn; exact dn), fun z => until_c x.1 pc f0 f1 (by omega) (fun u hu => ?_)⟩⟩
      obtain ⟨bz, gz⟩ := h1' (by omega)
      have u0 := hu.1
      rw [← tt] at hu
      try rw [show hh 6 12 1 = σ 0 0 0 + m by rw [lc.1.1.1, tt]]
      refine ⟨⟨by omega, by omega⟩, fun t14 h14 => ?_⟩
      by_cases c : σ 0 0 0 + 100 - (σ 0 0 0 + (m : Int)) ≤ u
      · rw [h14.1 c]
        refine ⟨by omega, fun _ => ?_, fun z => absurd rfl z⟩
        unfold wX0_heldBehind_157
        refine ih m 0 (i + 1) hh ρ hd1 (by omega) (by omega) hm fr lc iv tt s5 (Or.inl rfl) (fun _ => ?_) (fun z => by omega)
        rw [← gz, goZ_none_left x.1 iv (100 - m) (by omega) hu (by omega)]
      · rw [h14.2 c]
        refine ⟨by omega, fun z => by omega, fun _ => ?_⟩
        refine pass_c (x.cp fr iv lc) (by omega) (fun h18 f18 l18 h19 e19 => ?_)
        have g := goA_inv x.1 u.toNat iv (by omega)
        have e6 : h18 6 12 6 = σ 0 5 0 := by rw [l18.1.1.2.2.2.2.2, g.2.2.1, s5]
        have bb := bAnd1_all (bShr w i)
        have vr := or_rng (b := bAnd (bShr w i) 1) inv.2.2.2.2.2.1 (show 0 ≤ f ∧ f < 8 by omega) bb
        rw [e6] at e19
        have fr19 : FrL 12 h h19 := (fr.tr f18).tr (by rw [e19]; exact FrL.up (by unfold lnK; omega))
        have l19 : LineC h19 12 π (u5 (bOr (σ 0 5 0) (bShl (bAnd (bShr w i) 1) f)) (goA π u.toNat ρ)) := by rw [e19]; exact l18.u5
        have i19 := u5_inv g.1 vr
        have t19 : u5 (bOr (σ 0 5 0) (bShl (bAnd (bShr w i) 1) f)) (goA π u.toNat ρ) 0 0 0 = σ 0 0 0 + m + u := by rw [u5_0 (by decide), g.2.1]; omega
        refine pass_c (x.cp fr19 i19 l19) (by omega) (fun h20 f20 l20 h21 e21 => ?_)
        rw [e6] at e21
        unfold wX0_heldBehind_157
        have i20 := unitA_inv x.1 i19 (by omega)
        have tell := goZ_tell (s := w) (n := i) x.1 f0 f1 (is_now x.1 iv hu (by omega) (by omega) (by rw [s5]; exact bz)) (by omega) (by rw [g.2.2.1, s5]; exact inv.2.2.2.2.2.1) bb (100 - (m + u.toNat + 1))
        rw [g.2.2.1, s5] at tell
        refine ih (m + u.toNat + 1) 1 (i + 1) h21 (u5 (σ 0 5 0) (unitA π (u5 (bOr (σ 0 5 0) (bShl (bAnd (bShr w i) 1) f)) (goA π u.toNat ρ)))) hd1 (by omega) (by omega) (by omega) ((fr19.tr f20).tr (by rw [e21]; exact FrL.up (by unfold lnK; omega))) (by rw [e21]; exact l20.u5) (u5_inv i20 inv.2.2.2.2.2.1) ?_ up_eq (Or.inr rfl) (fun z => by omega) (fun _ => ⟨bz, ?_⟩)
        · rw [u5_0 (by decide), (unitA_time x.1 i19).1, t19]; omega
        · rw [← tell, ← goZ_skip (100 - (m + u.toNat + 1) + 1) u.toNat ρ (fun j hj => not_now x.1 iv hu j (by omega) (by omega)), ← gz]
          congr 1; omega
  refine ⟨by omega, fun t3 h3 => ⟨_, loop _ 0 t3 0 h1 σ rfl (by omega) (by omega) (by omega) f1' l1 inv (by omega) rfl ?_ (fun z => ?_) (fun z => ?_)⟩⟩
  · by_cases c : bAnd (bShr (σ 0 5 0) f) 1 = 0
    · exact Or.inr (h3.2 c)
    · exact Or.inl (h3.1 c)
  · have c : ¬ bAnd (bShr (σ 0 5 0) f) 1 = 0 := fun c => by have := h3.2 c; omega
    have := goZ_skip (z := f) (s := w) (n := 0) 0 100 σ (fun j hj t => c (by have := t.1; rw [goA_stop x.1 inv j (by omega)] at this; exact this))
    rw [← hG, this]; rfl
  · refine ⟨?_, hG⟩
    by_cases c : bAnd (bShr (σ 0 5 0) f) 1 = 0
    · exact c
    · have := h3.1 c; omega
