/-! years -/
theorem half_bv (x : BitVec 32) : (x >>> 16) &&& 32767#32 = (x.sshiftRight 16) &&& 32767#32 := by
  apply BitVec.eq_of_getLsbD_eq
  intro i hi
  rw [BitVec.getLsbD_and, BitVec.getLsbD_and, BitVec.getLsbD_ushiftRight, BitVec.getLsbD_sshiftRight]
  by_cases h8 : i < 15
  · have h1 : ¬ 32 ≤ i := by omega
    have h2 : 16 + i < 32 := by omega
    simp [h1, h2]
  · have : (32767#32).getLsbD i = false := by
      have : ∀ i : Nat, i < 32 → 15 ≤ i → (32767#32).getLsbD i = false := by decide
      exact this i hi (by omega)
    rw [this, Bool.and_false, Bool.and_false]
def nxA (s : Int) : Int := s * 1103515245 + 12345
def btA (s : Int) : Int := bAnd (bShr s 16) 32767
theorem bt_u (z : Int) : bAnd (bUshr z 16) 32767 = btA z := by
  unfold btA bAnd bUshr bShr
  rw [Int32.ofInt_toInt, Int32.ofInt_toInt]
  congr 1
  apply Int32.toBitVec_inj.mp
  rw [Int32.toBitVec_and, Int32.toBitVec_and, (ush_bv (Int32.ofInt z)).2.2.1, (sh_bv (Int32.ofInt z)).2.2.1]
  exact half_bv _
theorem bt_rng (s : Int) : 0 ≤ btA s ∧ btA s ≤ 32767 := by
  unfold btA bAnd
  generalize bShr s 16 = v
  have e : ((Int32.ofInt v &&& Int32.ofInt 32767).toBitVec).toNat ≤ 32767 := by
    rw [Int32.toBitVec_and, BitVec.toNat_and]
    exact Nat.le_trans Nat.and_le_right (by decide)
  have t : (Int32.ofInt v &&& Int32.ofInt 32767).toInt = (((Int32.ofInt v &&& Int32.ofInt 32767).toBitVec).toNat : Int) := by
    show ((Int32.ofInt v &&& Int32.ofInt 32767).toBitVec).toInt = _
    rw [BitVec.toInt_eq_toNat_of_lt (by omega)]
  rw [t]
  omega
theorem mod_rng {s n : Int} (hn : 0 < n) : 0 ≤ btA s % n ∧ btA s % n < n := ⟨Int.emod_nonneg _ (by omega), Int.emod_lt_of_pos _ hn⟩
theorem draw_c {h : HP} {n s : Int} {P : Int → HP → Prop} (hn : 0 < n ∧ n < 1000) (q : h 0 0 3 = s) (k : ∀ h', (∀ k, k ≠ 0 → h' k = h k) → h' 0 0 3 = nxA s → P (btA (nxA s) % n) h') : wX0_draw 0 n h P := by
  unfold wX0_draw
  intro h1 e1
  have e3 : h1 0 0 3 = nxA s := by rw [e1, up_eq, q]; rfl
  have b := bt_rng (nxA s)
  rw [e3, bt_u]
  refine ⟨⟨by omega, fun _ => ⟨by omega, by omega⟩⟩, fun t5 h5 => ?_⟩
  rw [h5.2 (by omega)]
  exact k h1 (fun k hk => by rw [e1, up_k hk]) e3
theorem draw_r {h : HP} {n s : Int} {P : Int → HP → Prop} (hn : 0 < n ∧ n < 1000) (q : h 12 7 47 = s) (k : ∀ h', (∀ k, k ≠ 12 → h' k = h k) → (∀ j, j ≠ 47 → h' 12 7 j = h 12 7 j) → h' 12 7 47 = nxA s → P (btA (nxA s) % n) h') : wX12_draw 7 n h P := by
  unfold wX12_draw
  intro h1 e1
  have e3 : h1 12 7 47 = nxA s := by rw [e1, up_eq, q]; rfl
  have b := bt_rng (nxA s)
  have e4 : bAnd (bShr (h1 12 7 47) 16) 32767 = btA (nxA s) := by rw [e3]; rfl
  rw [e4]
  exact ⟨by omega, by omega, k h1 (fun k hk => by rw [e1, up_k hk]) (fun j hj => by rw [e1, up_j hj]) e3⟩
/-- what happens in a year, by its kind -/
noncomputable def evA (π : PL) (kd : Int) (σ : ST) (s : Int) : ST × Int :=
  if kd < 3 ∧ 0 < π 0 0 then
    (if kd = 0 then ((if kids π (btA (nxA s) % π 0 0) = 0 then acceptA π σ (btA (nxA s) % π 0 0) (btA (nxA (nxA s)) % 64 + 1) else σ), nxA (nxA s))
     else if kd = 1 then (changeU π σ (btA (nxA s) % π 0 0) 1 (btA (nxA (nxA s)) % 100 + 1) 0 (btA (nxA (nxA s)) % 100 + 1), nxA (nxA s))
     else (dropQ σ (btA (nxA s) % π 0 0), nxA s))
  else if kd = 3 ∧ 0 < π 0 1 then (togA σ (btA (nxA s) % π 0 1), nxA s) else (σ, s)
theorem dropQ_none {σ : ST} {c : Int} (h : σ 6 c 0 = 0) : dropQ σ c = σ := by
  unfold dropQ
  funext k i j
  by_cases q : k = 6 ∧ i = c ∧ j = 0
  · obtain ⟨q1, q2, q3⟩ := q
    subst q1; subst q2; subst q3
    rw [up_eq, h]
  · rw [up_kj q]
theorem evA_inv {π : PL} {K kd s : Int} {σ : ST} (hp : PlanOK π) (inv : AInv π K σ) : AInv π (K + 1) (evA π kd σ s).1 ∧ (evA π kd σ s).1 0 0 0 = σ 0 0 0 := by
  have n8 := hp.2.1
  unfold evA
  by_cases c1 : kd < 3 ∧ 0 < π 0 0
  · rw [if_pos c1]
    have r := mod_rng (s := nxA s) c1.2
    by_cases c2 : kd = 0
    · rw [if_pos c2]
      have r2 := mod_rng (s := nxA (nxA s)) (show (0 : Int) < 64 by omega)
      show AInv π (K + 1) (if kids π (btA (nxA s) % π 0 0) = 0 then acceptA π σ (btA (nxA s) % π 0 0) (btA (nxA (nxA s)) % 64 + 1) else σ) ∧ (if kids π (btA (nxA s) % π 0 0) = 0 then acceptA π σ (btA (nxA s) % π 0 0) (btA (nxA (nxA s)) % 64 + 1) else σ) 0 0 0 = σ 0 0 0
      by_cases c3 : kids π (btA (nxA s) % π 0 0) = 0
      · rw [if_pos c3, acceptA_0 (Or.inl rfl)]
        exact ⟨acceptA_inv hp.1 inv r.1 r.2 c3 (by omega), rfl⟩
      · rw [if_neg c3]; exact ⟨inv.mono (by omega), rfl⟩
    · rw [if_neg c2]
      by_cases c3 : kd = 1
      · rw [if_pos c3]
        have r2 := mod_rng (s := nxA (nxA s)) (show (0 : Int) < 100 by omega)
        obtain ⟨w, w0, ci, e0, e1, e6⟩ := chg_ok (k := 1) (m := btA (nxA (nxA s)) % 100 + 1) hp inv r.1 r.2 (Or.inl rfl) (by omega)
        refine ⟨ci.mono (by omega), ?_⟩
        show changeA π σ _ _ 1 _ 0 _ 0 0 0 = _
        rw [e0]
      · rw [if_neg c3]; exact ⟨(dropQ_inv inv _).mono (by omega), by show dropQ σ (btA (nxA s) % π 0 0) 0 0 0 = σ 0 0 0; rw [dropQ_k (by decide)]⟩
  · rw [if_neg c1]
    by_cases c2 : kd = 3 ∧ 0 < π 0 1
    · rw [if_pos c2]
      have r := mod_rng (s := nxA s) c2.2
      exact ⟨(togA_inv inv r.1 (by omega)).mono (by omega), by show togA σ (btA (nxA s) % π 0 1) 0 0 0 = σ 0 0 0; unfold togA; rw [up_i (by decide)]⟩
    · rw [if_neg c2]; exact ⟨inv.mono (by omega), rfl⟩
/-- the class's line later, the seed, and all else -/
def YrC (h0 h : HP) (π : PL) (K : Int) (σ : ST) (s : Int) : Prop := LX h 12 π K σ ∧ h 0 0 3 = s ∧ FrQC h0 h
theorem YrC.draw {h0 h h' : HP} {π : PL} {K : Int} {σ : ST} {s s' : Int} (q : YrC h0 h π K σ s) (f : ∀ k, k ≠ 0 → h' k = h k) (e : h' 0 0 3 = s') : YrC h0 h' π K σ s' :=
  ⟨⟨q.1.1, q.1.2.1.congr (fun k hk => by rw [f k (by omega)]), q.1.2.2.1, q.1.2.2.2.congr (fun k hk => by rw [f k (by unfold lnK at hk; omega)])⟩, e, q.2.2.tr (fun k i z _ _ => by rw [f k (fun y => z (by rw [y]; exact Or.inl rfl))])⟩
theorem YrC.act {h0 h h' : HP} {π : PL} {K K' : Int} {σ τ : ST} {s : Int} (q : YrC h0 h π K σ s) (f : FrL 12 h h') (inv : AInv π K' τ) (l : LineC h' 12 π τ) : YrC h0 h' π K' τ s :=
  ⟨⟨q.1.1, q.1.2.1.fr f, inv, l⟩, by rw [f 0 0 (by unfold lnK; omega)]; exact q.2.1, q.2.2.tr f.q⟩
theorem happen_c {h0 h : HP} {π : PL} {K kd s : Int} {σ : ST} {P : HP → Prop} (q : YrC h0 h π K σ s) (hk : 0 ≤ kd ∧ kd < 6) (k : ∀ h', YrC h0 h' π (K + 1) (evA π kd σ s).1 (evA π kd σ s).2 → P h') : wX0_happen 0 kd h P := by
  have hp := q.1.1
  have n0 := hp.1.1
  have n12 := hp.1.2.1
  have n8 := hp.2.1
  have ei := evA_inv (kd := kd) (s := s) hp q.1.2.2.1
  unfold wX0_happen
  rw [q.1.2.1.1.1]
  have rest : ¬ (kd < 3 ∧ 0 < π 0 0) → wX0_happen_31 0 kd P h := by
    intro c1
    unfold wX0_happen_31
    rw [q.1.2.1.1.2]
    have stay : ¬ (kd = 3 ∧ 0 < π 0 1) → P h := fun n => k h (by
      unfold evA; rw [if_neg c1, if_neg n]
      exact ⟨⟨hp, q.1.2.1, q.1.2.2.1.mono (by omega), q.1.2.2.2⟩, q.2⟩)
    refine ⟨by omega, fun z => stay (fun u => z u.1), fun z => ⟨by omega, fun z2 => stay (fun u => by omega), fun z2 => draw_c (by omega) q.2.1 (fun h7 f7 e7 => ?_)⟩⟩
    have q7 := q.draw f7 e7
    refine tog_c q7.1 (fun h9 f9 l9 => k h9 ?_)
    unfold evA at ei ⊢
    rw [if_neg c1, if_pos ⟨z, by omega⟩] at ei ⊢
    exact q7.act f9 ei.1 l9
  refine ⟨by omega, fun z => rest (fun u => by omega), fun z => ⟨by omega, fun z2 => rest (fun u => by omega), fun z2 => draw_c (by omega) q.2.1 (fun h7 f7 e7 => ?_)⟩⟩
  have c1 : kd < 3 ∧ 0 < π 0 0 := by omega
  have r := mod_rng (s := nxA s) c1.2
  have q7 := q.draw f7 e7
  have end31 : ∀ hh, P hh → wX0_happen_31 0 kd P hh := fun hh ph => by
    unfold wX0_happen_31
    exact ⟨by omega, fun _ => ph, fun u => by omega⟩
  unfold wX0_happenTo
  unfold evA at ei k
  rw [if_pos c1] at ei
  simp only [if_pos c1] at k
  refine ⟨by omega, fun c2 => ⟨by omega, fun c3 => ?_, fun c3 => draw_c (by omega) q7.2.1 (fun h11 f11 e11 => ?_)⟩, fun c2 => draw_c (by omega) q7.2.1 (fun h14 f14 e14 => ?_)⟩
  · rw [if_neg c2, if_neg c3] at ei
    simp only [if_neg c2, if_neg c3] at k
    have ql := q7.1.2.2.1.qln _ r.1 r.2
    refine packets_c q7.1 r.1 r.2 ⟨by omega, fun z3 => end31 _ (k h7 ?_), fun z3 => ?_⟩
    · rw [dropQ_none (by omega)]; exact ⟨⟨hp, q7.1.2.1, q7.1.2.2.1.mono (by omega), q7.1.2.2.2⟩, q7.2⟩
    · have kl : kids π (btA (nxA s) % π 0 0) = 0 := by
        by_cases u : kids π (btA (nxA s) % π 0 0) = 0
        · exact u
        · have := (q7.1.2.2.1.2.2.2.2.2.2.1 _ r.1 r.2).2.2.2.2.1 u; omega
      exact empty_c q7.1 r.1 r.2 kl (fun h9 f9 l9 => end31 _ (k h9 (q7.act f9 ei.1 l9)))
  · rw [if_neg c2, if_pos c3] at ei
    simp only [if_neg c2, if_pos c3] at k
    have q11 := q7.draw f11 e11
    have r2 := mod_rng (s := nxA (nxA s)) (show (0 : Int) < 100 by omega)
    obtain ⟨w, w0, ci, e0, e1, e6⟩ := chg_ok (k := 1) (m := btA (nxA (nxA s)) % 100 + 1) hp q.1.2.2.1 r.1 r.2 (Or.inl rfl) (by omega)
    exact change_c q11.1 r.1 r.2 (by omega) w w0 (fun h13 f13 l13 => end31 _ (k h13 (q11.act f13 ei.1 l13)))
  · rw [if_pos c2] at ei
    simp only [if_pos c2] at k
    have q14 := q7.draw f14 e14
    have r2 := mod_rng (s := nxA (nxA s)) (show (0 : Int) < 64 by omega)
    refine isLeaf_c hp.1 q14.1.2.1 (by omega) (fun y hy hq => ⟨by omega, fun z3 => end31 _ (k h14 ?_), fun z3 => ?_⟩)
    · rw [if_neg (fun u => by have := hq.mpr u; omega)]
      exact ⟨⟨hp, q14.1.2.1, q14.1.2.2.1.mono (by omega), q14.1.2.2.2⟩, q14.2⟩
    · have kl := hq.mp (by omega)
      simp only [if_pos kl] at k ei
      exact accept_c hp q14.1.2.1 q14.1.2.2.1 q14.1.2.2.2 r.1 r.2 kl (by omega) (fun h20 f20 l20 => end31 _ (k h20 (q14.act f20 ei.1 l20)))
