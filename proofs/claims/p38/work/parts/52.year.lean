theorem half_bv (x : BitVec 32) : (x >>> 16) &&& 32767#32 = (x.sshiftRight 16) &&& 32767#32 := by
  apply BitVec.eq_of_getLsbD_eq
  intro i hi
  rw [BitVec.getLsbD_and, BitVec.getLsbD_and, BitVec.getLsbD_ushiftRight, BitVec.getLsbD_sshiftRight]
  by_cases h8 : i < 15
  · have h1 : ¬ 32 ≤ i := by omega
    have h2 : 16 + i < 32 := by omega
    simp [h1, h2]
  · have : (32767#32).getLsbD i = false := by
      have : ∀ i : Nat, i < 32 → 15 ≤ i → (32767#32).getLsbD i = false := by decide
      exact this i hi (by omega)
    rw [this, Bool.and_false, Bool.and_false]
def nxA (s : Int) : Int := s * 1103515245 + 12345
def btA (s : Int) : Int := bAnd (bShr s 16) 32767
theorem bt_u (z : Int) : bAnd (bUshr z 16) 32767 = btA z := by
  unfold btA bAnd bUshr bShr
  rw [Int32.ofInt_toInt, Int32.ofInt_toInt]
  congr 1
  apply Int32.toBitVec_inj.mp
  rw [Int32.toBitVec_and, Int32.toBitVec_and, (ush_bv (Int32.ofInt z)).2.2.1, (sh_bv (Int32.ofInt z)).2.2.1]
  exact half_bv _
theorem bt_rng (s : Int) : 0 ≤ btA s ∧ btA s ≤ 32767 := by
  unfold btA bAnd
  generalize bShr s 16 = v
  have e : ((Int32.ofInt v &&& Int32.ofInt 32767).toBitVec).toNat ≤ 32767 := by
    rw [Int32.toBitVec_and, BitVec.toNat_and]
    exact Nat.le_trans Nat.and_le_right (by decide)
  have t : (Int32.ofInt v &&& Int32.ofInt 32767).toInt = (((Int32.ofInt v &&& Int32.ofInt 32767).toBitVec).toNat : Int) := by
    show ((Int32.ofInt v &&& Int32.ofInt 32767).toBitVec).toInt = _
    rw [BitVec.toInt_eq_toNat_of_lt (by omega)]
  rw [t]
  omega
theorem mod_rng {s n : Int} (hn : 0 < n) : 0 ≤ btA s % n ∧ btA s % n < n := ⟨Int.emod_nonneg _ (by omega), Int.emod_lt_of_pos _ hn⟩
theorem draw_c {h : HP} {n s : Int} {P : Int → HP → Prop} (hn : 0 < n ∧ n < 1000) (q : h 0 0 3 = s) (k : ∀ h', (∀ k, k ≠ 0 → h' k = h k) → h' 0 0 3 = nxA s → P (btA (nxA s) % n) h') : wX0_draw 0 n h P := by
  unfold wX0_draw
  intro h1 e1
  have e3 : h1 0 0 3 = nxA s := by rw [e1, up_eq, q]; rfl
  have b := bt_rng (nxA s)
  rw [e3, bt_u]
  refine ⟨⟨by omega, fun _ => ⟨by omega, by omega⟩⟩, fun t5 h5 => ?_⟩
  rw [h5.2 (by omega)]
  exact k h1 (fun k hk => by rw [e1, up_k hk]) e3
/-- what happens in a year, by its kind -/
noncomputable def evA (π : PL) (kd : Int) (σ : ST) (s : Int) : ST × Int :=
  if kd < 3 ∧ 0 < π 0 0 then
    (if kd = 0 then ((if kids π (btA (nxA s) % π 0 0) = 0 then acceptA π σ (btA (nxA s) % π 0 0) (btA (nxA (nxA s)) % 64 + 1) else σ), nxA (nxA s))
     else if kd = 1 then (changeU π σ (btA (nxA s) % π 0 0) 1 (btA (nxA (nxA s)) % 100 + 1) 0 (btA (nxA (nxA s)) % 100 + 1), nxA (nxA s))
     else (dropQ σ (btA (nxA s) % π 0 0), nxA s))
  else if kd = 3 ∧ 0 < π 0 1 then (togA σ (btA (nxA s) % π 0 1), nxA s) else (σ, s)
theorem dropQ_none {σ : ST} {c : Int} (h : σ 6 c 0 = 0) : dropQ σ c = σ := by
  unfold dropQ
  funext k i j
  by_cases q : k = 6 ∧ i = c ∧ j = 0
  · obtain ⟨q1, q2, q3⟩ := q
    subst q1; subst q2; subst q3
    rw [up_eq, h]
  · rw [up_kj q]
theorem evA_inv {π : PL} {K kd s : Int} {σ : ST} (hp : PlanOK π) (inv : AInv π K σ) : AInv π (K + 1) (evA π kd σ s).1 ∧ (evA π kd σ s).1 0 0 0 = σ 0 0 0 := by
  have n8 := hp.2.1
  unfold evA
  by_cases c1 : kd < 3 ∧ 0 < π 0 0
  · rw [if_pos c1]
    have r := mod_rng (s := nxA s) c1.2
    by_cases c2 : kd = 0
    · rw [if_pos c2]
      have r2 := mod_rng (s := nxA (nxA s)) (show (0 : Int) < 64 by omega)
      show AInv π (K + 1) (if kids π (btA (nxA s) % π 0 0) = 0 then acceptA π σ (btA (nxA s) % π 0 0) (btA (nxA (nxA s)) % 64 + 1) else σ) ∧ (if kids π (btA (nxA s) % π 0 0) = 0 then acceptA π σ (btA (nxA s) % π 0 0) (btA (nxA (nxA s)) % 64 + 1) else σ) 0 0 0 = σ 0 0 0
      by_cases c3 : kids π (btA (nxA s) % π 0 0) = 0
      · rw [if_pos c3, acceptA_0 (Or.inl rfl)]
        exact ⟨acceptA_inv hp.1 inv r.1 r.2 c3 (by omega), rfl⟩
      · rw [if_neg c3]; exact ⟨inv.mono (by omega), rfl⟩
    · rw [if_neg c2]
      by_cases c3 : kd = 1
      · rw [if_pos c3]
        have r2 := mod_rng (s := nxA (nxA s)) (show (0 : Int) < 100 by omega)
        obtain ⟨w, w0, ci, e0, e1, e6⟩ := chg_ok (k := 1) (m := btA (nxA (nxA s)) % 100 + 1) hp inv r.1 r.2 (Or.inl rfl) (by omega)
        refine ⟨ci.mono (by omega), ?_⟩
        show changeA π σ _ _ 1 _ 0 _ 0 0 0 = _
        rw [e0]
      · rw [if_neg c3]; exact ⟨(dropQ_inv inv _).mono (by omega), by show dropQ σ (btA (nxA s) % π 0 0) 0 0 0 = σ 0 0 0; rw [dropQ_k (by decide)]⟩
  · rw [if_neg c1]
    by_cases c2 : kd = 3 ∧ 0 < π 0 1
    · rw [if_pos c2]
      have r := mod_rng (s := nxA s) c2.2
      exact ⟨(togA_inv inv r.1 (by omega)).mono (by omega), by show togA σ (btA (nxA s) % π 0 1) 0 0 0 = σ 0 0 0; unfold togA; rw [up_i (by decide)]⟩
    · rw [if_neg c2]; exact ⟨inv.mono (by omega), rfl⟩
/-- the class's line later, the seed, and all else -/
def YrC (h0 h : HP) (π : PL) (K : Int) (σ : ST) (s : Int) : Prop := LX h 12 π K σ ∧ h 0 0 3 = s ∧ FrQC h0 h
theorem YrC.draw {h0 h h' : HP} {π : PL} {K : Int} {σ : ST} {s s' : Int} (q : YrC h0 h π K σ s) (f : ∀ k, k ≠ 0 → h' k = h k) (e : h' 0 0 3 = s') : YrC h0 h' π K σ s' :=
  ⟨⟨q.1.1, q.1.2.1.congr (fun k hk => by rw [f k (by omega)]), q.1.2.2.1, q.1.2.2.2.congr (fun k hk => by rw [f k (by unfold lnK at hk; omega)])⟩, e, q.2.2.tr (fun k i z _ _ => by rw [f k (fun y => z (by rw [y]; exact Or.inl rfl))])⟩
theorem YrC.act {h0 h h' : HP} {π : PL} {K K' : Int} {σ τ : ST} {s : Int} (q : YrC h0 h π K σ s) (f : FrL 12 h h') (inv : AInv π K' τ) (l : LineC h' 12 π τ) : YrC h0 h' π K' τ s :=
  ⟨⟨q.1.1, q.1.2.1.fr f, inv, l⟩, by rw [f 0 0 (by unfold lnK; omega)]; exact q.2.1, q.2.2.tr f.q⟩
theorem happen_c {h0 h : HP} {π : PL} {K kd s : Int} {σ : ST} {P : HP → Prop} (q : YrC h0 h π K σ s) (hk : 0 ≤ kd ∧ kd < 6) (k : ∀ h', YrC h0 h' π (K + 1) (evA π kd σ s).1 (evA π kd σ s).2 → P h') : wX0_happen 0 kd h P := by
  have hp := q.1.1
  have n0 := hp.1.1
  have n12 := hp.1.2.1
  have n8 := hp.2.1
  have ei := evA_inv (kd := kd) (s := s) hp q.1.2.2.1
  unfold wX0_happen
  rw [q.1.2.1.1.1]
  have rest : ¬ (kd < 3 ∧ 0 < π 0 0) → wX0_happen_31 0 kd P h := by
    intro c1
    unfold wX0_happen_31
    rw [q.1.2.1.1.2]
    have stay : ¬ (kd = 3 ∧ 0 < π 0 1) → P h := fun n => k h (by
      unfold evA; rw [if_neg c1, if_neg n]
      exact ⟨⟨hp, q.1.2.1, q.1.2.2.1.mono (by omega), q.1.2.2.2⟩, q.2⟩)
    refine ⟨by omega, fun z => stay (fun u => z u.1), fun z => ⟨by omega, fun z2 => stay (fun u => by omega), fun z2 => draw_c (by omega) q.2.1 (fun h7 f7 e7 => ?_)⟩⟩
    have q7 := q.draw f7 e7
    refine tog_c q7.1 (fun h9 f9 l9 => k h9 ?_)
    unfold evA at ei ⊢
    rw [if_neg c1, if_pos ⟨z, by omega⟩] at ei ⊢
    exact q7.act f9 ei.1 l9
  refine ⟨by omega, fun z => rest (fun u => by omega), fun z => ⟨by omega, fun z2 => rest (fun u => by omega), fun z2 => draw_c (by omega) q.2.1 (fun h7 f7 e7 => ?_)⟩⟩
  have c1 : kd < 3 ∧ 0 < π 0 0 := by omega
  have r := mod_rng (s := nxA s) c1.2
  have q7 := q.draw f7 e7
  have end31 : ∀ hh, P hh → wX0_happen_31 0 kd P hh := fun hh ph => by
    unfold wX0_happen_31
    exact ⟨by omega, fun _ => ph, fun u => by omega⟩
  unfold wX0_happenTo
  unfold evA at ei k
  rw [if_pos c1] at ei
  simp only [if_pos c1] at k
  refine ⟨by omega, fun c2 => ⟨by omega, fun c3 => ?_, fun c3 => draw_c (by omega) q7.2.1 (fun h11 f11 e11 => ?_)⟩, fun c2 => draw_c (by omega) q7.2.1 (fun h14 f14 e14 => ?_)⟩
  · rw [if_neg c2, if_neg c3] at ei
    simp only [if_neg c2, if_neg c3] at k
    have ql := q7.1.2.2.1.qln _ r.1 r.2
    refine packets_c q7.1 r.1 r.2 ⟨by omega, fun z3 => end31 _ (k h7 ?_), fun z3 => ?_⟩
    · rw [dropQ_none (by omega)]; exact ⟨⟨hp, q7.1.2.1, q7.1.2.2.1.mono (by omega), q7.1.2.2.2⟩, q7.2⟩
    · have kl : kids π (btA (nxA s) % π 0 0) = 0 := by
        by_cases u : kids π (btA (nxA s) % π 0 0) = 0
        · exact u
        · have := (q7.1.2.2.1.2.2.2.2.2.2.1 _ r.1 r.2).2.2.2.2.1 u; omega
      exact empty_c q7.1 r.1 r.2 kl (fun h9 f9 l9 => end31 _ (k h9 (q7.act f9 ei.1 l9)))
  · rw [if_neg c2, if_pos c3] at ei
    simp only [if_neg c2, if_pos c3] at k
    have q11 := q7.draw f11 e11
    have r2 := mod_rng (s := nxA (nxA s)) (show (0 : Int) < 100 by omega)
    obtain ⟨w, w0, ci, e0, e1, e6⟩ := chg_ok (k := 1) (m := btA (nxA (nxA s)) % 100 + 1) hp q.1.2.2.1 r.1 r.2 (Or.inl rfl) (by omega)
    exact change_c q11.1 r.1 r.2 (by omega) w w0 (fun h13 f13 l13 => end31 _ (k h13 (q11.act f13 ei.1 l13)))
  · rw [if_pos c2] at ei
    simp only [if_pos c2] at k
    have q14 := q7.draw f14 e14
    have r2 := mod_rng (s := nxA (nxA s)) (show (0 : Int) < 64 by omega)
    refine isLeaf_c hp.1 q14.1.2.1 (by omega) (fun y hy hq => ⟨by omega, fun z3 => end31 _ (k h14 ?_), fun z3 => ?_⟩)
    · rw [if_neg (fun u => by have := hq.mpr u; omega)]
      exact ⟨⟨hp, q14.1.2.1, q14.1.2.2.1.mono (by omega), q14.1.2.2.2⟩, q14.2⟩
    · have kl := hq.mp (by omega)
      simp only [if_pos kl] at k ei
      exact accept_c hp q14.1.2.1 q14.1.2.2.1 q14.1.2.2.2 r.1 r.2 kl (by omega) (fun h20 f20 l20 => end31 _ (k h20 (q14.act f20 ei.1 l20)))
noncomputable def yrA (π : PL) (p : ST × Int) : ST × Int := (goA π 10 (evA π (btA (nxA p.2) % 6) p.1 (nxA p.2)).1, (evA π (btA (nxA p.2) % 6) p.1 (nxA p.2)).2)
noncomputable def yrN (π : PL) (p : ST × Int) : Nat → (ST × Int) × Int
  | 0 => (p, 0)
  | n + 1 => (yrA π (yrN π p n).1, max (yrN π p n).2 (hel π (yrA π (yrN π p n).1).1 12))
theorem yrN_inv {π : PL} {K s : Int} {σ : ST} (hp : PlanOK π) (inv : AInv π K σ) (hT : σ 0 0 0 ≤ 2000) : ∀ n : Nat, n ≤ 60 → AInv π (K + n) (yrN π (σ, s) n).1.1 ∧ (yrN π (σ, s) n).1.1 0 0 0 = σ 0 0 0 + 10 * n ∧ 0 ≤ (yrN π (σ, s) n).2 ∧ (yrN π (σ, s) n).2 ≤ 240 := by
  intro n
  induction n with
  | zero => intro _; exact ⟨inv.mono (by omega), by show σ 0 0 0 = _; omega, Int.le_refl (0 : Int), by show (0 : Int) ≤ 240; omega⟩
  | succ n ih =>
    intro hn
    obtain ⟨i1, i2, i3, i4⟩ := ih (by omega)
    have e := evA_inv (kd := btA (nxA (yrN π (σ, s) n).1.2) % 6) (s := nxA (yrN π (σ, s) n).1.2) hp i1
    have g := goA_inv hp 10 e.1 (by omega)
    have hr := g.1.hel_rng hp.1 12
    refine ⟨?_, ?_, ?_, ?_⟩
    · show AInv π (K + ((n + 1 : Nat) : Int)) (goA π 10 _)
      exact g.1.mono (by omega)
    · show goA π 10 _ 0 0 0 = _
      rw [g.2.1]; omega
    · show 0 ≤ max (yrN π (σ, s) n).2 (hel π (goA π 10 _) 12); omega
    · show max (yrN π (σ, s) n).2 (hel π (goA π 10 (evA π (btA (nxA (yrN π (σ, s) n).1.2) % 6) (yrN π (σ, s) n).1.1 (nxA (yrN π (σ, s) n).1.2)).1) 12) ≤ 240; omega
noncomputable def yearsV (π : PL) (σ : ST) (s n a : Int) : Int × Int := if 0 ≤ a ∧ a ≤ 2 then (if 0 ≤ n ∧ n ≤ 60 then (0, if a = 0 then sentA π (yrN π (σ, s) n.toNat).1.1 - sentA π σ else if a = 1 then lostA π (yrN π (σ, s) n.toNat).1.1 - lostA π σ else (yrN π (σ, s) n.toNat).2) else (2, 0)) else (1, 0)
theorem years_c {h : HP} {π : PL} {K s n a : Int} {σ : ST} {P : Int → HP → Prop} {X : Nat → HP → Prop} (x : LX h 10 π K σ) (hT : σ 0 0 0 ≤ 2000) (hn : inR n) (ha : inR a)
    (k : ∀ h' v, FrQC h h' → yearsV π σ s n a = (0, v) → P v h') (kx : ∀ h', FrQC h h' → yearsV π σ s n a = (1, 0) → X 0 h') (kx2 : ∀ h', FrQC h h' → yearsV π σ s n a = (2, 0) → X 1 h') : wX11_years 0 s n a h P X := by
  have inv := x.2.2.1
  have t0 := inv.1
  unfold wX11_years
  refine ⟨ha, fun z => kx h (FrQC.rf h) (by unfold yearsV; rw [if_neg (by omega)]), fun z => ⟨ha, fun z2 => ?_, fun z2 => kx h (FrQC.rf h) (by unfold yearsV; rw [if_neg (by omega)])⟩⟩
  refine needRange_c hn (by unfold inR; omega) (by unfold inR; omega) (fun rn => ?_) (fun nr => kx2 h (FrQC.rf h) (by unfold yearsV; rw [if_pos (by omega), if_neg nr]))
  have ev : ∀ h' v, FrQC h h' → (if a = 0 then sentA π (yrN π (σ, s) n.toNat).1.1 - sentA π σ else if a = 1 then lostA π (yrN π (σ, s) n.toNat).1.1 - lostA π σ else (yrN π (σ, s) n.toNat).2) = v → P v h' := fun h' v f e => k h' v f (by unfold yearsV; rw [if_pos (by omega), if_pos rn, e])
  unfold wX0_liveThrough
  intro h1 e1
  have f1 : FrQC h h1 := by rw [e1]; exact FrQC.up (Or.inl rfl)
  have x1 := x.fq f1
  refine copyL_c (by decide) x.1 x1.2.1 x1.2.2.2 (fun h2 f2 l2 => ?_)
  have q2 : YrC h h2 π K σ s := ⟨x1.cp f2 inv l2, by rw [f2 0 0 (by unfold lnK; omega), e1, up_eq], f1.tr f2.q⟩
  have loop : ∀ (d m : Nat) (hh : HP), n.toNat - m = d → m ≤ n.toNat → YrC h hh π (K + m) (yrN π (σ, s) m).1.1 (yrN π (σ, s) m).1.2 →
      wX0_liveThrough_22 0 s n a (fun l17 h18 => (-2147483648 ≤ a ∧ a < 2147483648) ∧ ((a = 0 → wX6_allSent 12 h18 (fun x22 h21 => wX6_allSent 10 h21 (fun x24 h23 => P (x22 - x24) h23))) ∧ (¬ a = 0 → ((a = 1 → wX6_allLost 12 h18 (fun x27 h26 => wX6_allLost 10 h26 (fun x29 h28 => P (x27 - x29) h28))) ∧ (¬ a = 1 → P l17 h18))))) (d + 1) (yrN π (σ, s) m).2 m hh := by
    intro d
    induction d with
    | zero =>
      intro m hh hd hm q
      have e : m = n.toNat := by omega
      subst e
      have x10 := x.fq q.2.2
      rw [wX0_liveThrough_22]
      exact ⟨by omega, by omega, fun _ => ⟨ha, fun c0 => sent_c q.1 (sent_c x10 (ev hh _ q.2.2 (by rw [if_pos c0]))), fun c0 => ⟨fun c1 => lost_c q.1 (lost_c x10 (ev hh _ q.2.2 (by rw [if_neg c0, if_pos c1]))), fun c1 => ev hh _ q.2.2 (by rw [if_neg c0, if_neg c1])⟩⟩, fun u => absurd (by omega) u⟩
    | succ d ih =>
      intro m hh hd hm q
      have yi := yrN_inv (s := s) x.1 inv hT m (by omega)
      have yi1 := yrN_inv (s := s) x.1 inv hT (m + 1) (by omega)
      rw [wX0_liveThrough_22]
      refine ⟨by omega, by omega, fun u => absurd u (by omega), fun _ => draw_c (by omega) q.2.1 (fun h6 f6 e6 => ?_)⟩
      have q6 := q.draw f6 e6
      have r6 := mod_rng (s := nxA (yrN π (σ, s) m).1.2) (show (0 : Int) < 6 by omega)
      have ei := evA_inv (kd := btA (nxA (yrN π (σ, s) m).1.2) % 6) (s := nxA (yrN π (σ, s) m).1.2) x.1 yi.1
      refine happen_c q6 r6 (fun h8 q8 => pass_c q8.1 (by omega) (fun h9 f9 l9 => ?_))
      have q9 := q8.act f9 (K' := K + ((m + 1 : Nat) : Int)) (τ := (yrN π (σ, s) (m + 1)).1.1) yi1.1 l9
      have h29 : h9 29 12 12 = hel π (yrN π (σ, s) (m + 1)).1.1 12 := l9.2 12 (Or.inr rfl)
      have hr := yi1.1.hel_rng x.1.1 12
      rw [h29]
      refine ⟨⟨by omega, by omega⟩, fun t12 h12 => ?_⟩
      have e : t12 = (yrN π (σ, s) (m + 1)).2 := by
        show t12 = max (yrN π (σ, s) m).2 (hel π (yrN π (σ, s) (m + 1)).1.1 12)
        by_cases u : hel π (yrN π (σ, s) (m + 1)).1.1 12 ≤ (yrN π (σ, s) m).2
        · rw [h12.1 u]; omega
        · rw [h12.2 u]; omega
      rw [e]
      exact ih (m + 1) h9 (by omega) (by omega) q9
  exact ⟨_, loop n.toNat 0 h2 rfl (by omega) ⟨⟨q2.1.1, q2.1.2.1, q2.1.2.2.1.mono (by omega), q2.1.2.2.2⟩, q2.2⟩⟩
