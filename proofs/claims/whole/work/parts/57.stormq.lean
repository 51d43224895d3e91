/-! storms: the class's sum -/
theorem weight_c {f n tn mo l5 s : Int} {h : HP} {Ko : Int → Prop} (hn : 1 ≤ n ∧ n ≤ 5) (k : Ko (wtM s tn n.toNat)) : ∃ g : Nat, wX0_likelyAtMost_20 0 f n tn mo l5 s h Ko g 1 0 := by
  have loop : ∀ (d m : Nat), n.toNat - m = d → m ≤ n.toNat → wX0_likelyAtMost_20 0 f n tn mo l5 s h Ko (d + 1) (wtM s tn m) m := by
    intro d
    induction d with
    | zero =>
      intro m hd hm
      have e : m = n.toNat := by omega
      subst e
      rw [wX0_likelyAtMost_20]
      exact ⟨by omega, by omega, fun _ => k, fun u => absurd (by omega) u⟩
    | succ d ih =>
      intro m hd hm
      have b := bAnd1_all (bShr s m)
      rw [wX0_likelyAtMost_20]
      refine ⟨by omega, by omega, fun u => absurd u (by omega), fun _ => ⟨by omega, fun t8 h8 => ?_⟩⟩
      have e : wtM s tn (m + 1) = wtM s tn m * t8 := by
        show wtM s tn m * (if bAnd (bShr s m) 1 = 1 then tn else 10 - tn) = _
        by_cases u : bAnd (bShr s m) 1 = 0
        · rw [if_neg (by omega), h8.1 u]
        · rw [if_pos (by omega), h8.2 u]
      rw [← e]
      exact ih (m + 1) (by omega) (by omega)
  exact ⟨_, loop _ 0 rfl (by omega)⟩
theorem wtM_rng {s tn : Int} (ht : 0 ≤ tn ∧ tn ≤ 10) : ∀ m : Nat, 0 ≤ wtM s tn m ∧ wtM s tn m ≤ 10 ^ m := by
  intro m
  induction m with
  | zero => exact ⟨(by decide : (0 : Int) ≤ 1), Int.le_refl (1 : Int)⟩
  | succ m ih =>
    have f : 0 ≤ (if bAnd (bShr s m) 1 = 1 then tn else 10 - tn) ∧ (if bAnd (bShr s m) 1 = 1 then tn else 10 - tn) ≤ 10 := by split <;> omega
    show 0 ≤ wtM s tn m * _ ∧ wtM s tn m * _ ≤ 10 ^ (m + 1)
    refine ⟨Int.mul_nonneg ih.1 f.1, ?_⟩
    rw [Int.pow_succ]
    exact Int.mul_le_mul ih.2 f.2 f.1 (Int.le_trans ih.1 ih.2)
theorem goZ_inv {π : PL} {K z s : Int} (hp : PlanOK π) : ∀ (d : Nat) (σ : ST) (n : Int), AInv π K σ → σ 0 0 0 + d ≤ 2700 → AInv π K (goZ π z s d σ n) := by
  intro d
  induction d with
  | zero => intro σ n inv _; exact inv
  | succ d ih =>
    intro σ n inv hT
    exact ih _ _ (unitW_inv hp inv (by omega)) (by rw [(unitW_time hp inv).1]; omega)
theorem storms_c {h : HP} {π : PL} {K f n tn mo : Int} {σ : ST} {P : Int → HP → Prop} {X : Nat → HP → Prop} (x : LX h 10 π K σ) (hT : σ 0 0 0 ≤ 2000) (hf : inR f) (hn : inR n) (ht : inR tn) (hm : inR mo)
    (k : ∀ h' v, FrQC h h' → stormsV π σ f n tn mo = (0, v) → P v h') (kx : ∀ h', FrQC h h' → stormsV π σ f n tn mo = (1, 0) → X 0 h') (kx2 : ∀ h', FrQC h h' → stormsV π σ f n tn mo = (2, 0) → X 1 h') : wX11_storms 0 f n tn mo h P X := by
  unfold wX11_storms
  refine hasFlow_c x.1 x.2.1 hf (fun y hy hq => ⟨by omega, fun z => ?_, fun z => kx h (FrQC.rf h) (by unfold stormsV; rw [if_neg (fun u => by have := hq.mpr u; omega)])⟩)
  have rf := hq.mp (by omega)
  refine needRange_c hn (by unfold inR; omega) (by unfold inR; omega) (fun rn => needRange_c ht (by unfold inR; omega) (by unfold inR; omega) (fun rt => ?_) (fun nt => kx2 h (FrQC.rf h) (by unfold stormsV; rw [if_pos rf, if_neg (fun u => nt u.2)]))) (fun nn => kx2 h (FrQC.rf h) (by unfold stormsV; rw [if_pos rf, if_neg (fun u => nn u.1)]))
  have sh := shl_1 rn
  have p5 : (10 : Int) ^ n.toNat ≤ 100000 := by
    have : n = 1 ∨ n = 2 ∨ n = 3 ∨ n = 4 ∨ n = 5 := by omega
    rcases this with u | u | u | u | u <;> subst u <;> decide
  unfold inR at hm
  unfold wX0_likelyAtMost
  have loop : ∀ (d m : Nat) (hh : HP), 2 ^ n.toNat - m = d → m ≤ 2 ^ n.toNat → FrL 12 h hh → wX0_likelyAtMost_6 0 f n tn mo (fun l25 h26 => P l25 h26) (d + 1) (stN π σ f n.toNat tn mo m) m hh := by
    intro d
    induction d with
    | zero =>
      intro m hh hd hm' fr
      have e : m = 2 ^ n.toNat := by omega
      have em : (m : Int) = bShl 1 n := by rw [sh.1, e]; push_cast; rfl
      rw [wX0_likelyAtMost_6, ← em]
      exact ⟨by omega, by omega, fun _ => k hh _ fr.q (by unfold stormsV; rw [if_pos rf, if_pos ⟨rn, rt⟩, ← e]), fun u => absurd (Int.le_refl _) u⟩
    | succ d ih =>
      intro m hh hd hm' fr
      have em : (m : Int) < bShl 1 n := by
        rw [sh.1]
        have : m < 2 ^ n.toNat := by omega
        exact_mod_cast this
      have wr := wtM_rng (s := m) rt n.toNat
      have eN : stN π σ f n.toNat tn mo (m + 1) = stN π σ f n.toNat tn mo m + (if hel π (goZ π f m 100 σ 0) 12 ≤ mo then wtM m tn n.toNat else 0) := rfl
      rw [wX0_likelyAtMost_6]
      refine ⟨by omega, by omega, fun u => absurd u (by omega), fun _ => weight_c rn ⟨by omega, fun z0 => ?_, fun z0 => ?_⟩⟩
      · unfold wX0_likelyAtMost_80
        have e0 : stN π σ f n.toNat tn mo (m + 1) = stN π σ f n.toNat tn mo m := by rw [eN]; split <;> omega
        have := ih (m + 1) hh (by omega) (by omega) fr
        rw [e0] at this
        exact this
      · refine held_c (x.f12 fr) hT rf.1 rf.2 rn (by omega) em (fun h16 f16 => ?_)
        have hr : 0 ≤ hel π (goZ π f m 100 σ 0) 12 ∧ hel π (goZ π f m 100 σ 0) 12 ≤ 240 := by
          exact (goZ_inv x.1 100 σ 0 x.2.2.1 (by omega)).hel_rng x.1.1 12
        refine ⟨⟨by omega, by omega⟩, fun t20 h20 => ?_⟩
        unfold wX0_likelyAtMost_80
        have e20 : t20 = stN π σ f n.toNat tn mo (m + 1) := by
          rw [eN]
          by_cases u : mo < hel π (goZ π f m 100 σ 0) 12
          · rw [if_neg (by omega), h20.1 u]; omega
          · rw [if_pos (by omega), h20.2 u]
        rw [e20]
        exact ih (m + 1) h16 (by omega) (by omega) (fr.tr f16)
  exact ⟨_, loop _ 0 h rfl (Nat.zero_le _) (FrL.rf _ _)⟩
