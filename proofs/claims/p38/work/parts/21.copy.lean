theorem cp_row {h h' : HP} {k : Nat} {o o1 n : Int} (ho : o ≠ o1) (e : h' = upr h k o (fun j => if 0 ≤ j ∧ j < 0 + n then h k o1 (0 + (j - 0)) else h k o j)) : (∀ j, 0 ≤ j → j < n → h' k o j = h k o1 j) ∧ (∀ k', k' ≠ k → h' k' = h k') ∧ (∀ k', h' k' o1 = h k' o1) ∧ (∀ k' i, i ≠ o → h' k' i = h k' i) := by
  subst e
  refine ⟨fun j j0 j1 => ?_, fun k' hk => upr_k hk, fun k' => upr_i (fun z => ho z.symm), fun k' i hi => upr_i hi⟩
  rw [upr_eq]
  show (if _ then _ else _) = _
  rw [if_pos (by omega)]
  congr 1
  omega
theorem copyL_c {h : HP} {o o1 : Int} {π : PL} {σ : ST} {P : HP → Prop} (ho : o ≠ o1) (hp : PlanOK π) (pc : PlanC h 1 π) (lc : LineC h o1 π σ) (k : ∀ h', FrL o h h' → LineC h' o π σ → P h') : wX6_copyFrom o o1 h P := by
  have n0 := hp.1.1
  have n12 := hp.1.2.1
  have nf := hp.2.1
  have e8 : h 8 1 0 = π 0 0 := pc.1.1
  have e81 : h 8 1 1 = π 0 1 := pc.1.2
  unfold wX6_copyFrom
  rw [e8]
  intro h1 e1 h2 e2 h3 e3 h4 e4 h5 e5 h6 e6
  have u6 : h6 6 o 1 = h 6 o1 1 ∧ h6 6 o 2 = h 6 o1 2 ∧ h6 6 o 3 = h 6 o1 3 ∧ h6 6 o 4 = h 6 o1 4 ∧ h6 6 o 5 = h 6 o1 5 ∧ h6 6 o 6 = h 6 o1 6 := by
    have o1s : ∀ (g : HP) (j v : Int), (up g 6 o j v) 6 o1 = g 6 o1 := fun g j v => up_i (fun z => ho z.symm)
    refine ⟨?_, ?_, ?_, ?_, ?_, ?_⟩
    · rw [e6, up_j (by decide), e5, up_j (by decide), e4, up_j (by decide), e3, up_j (by decide), e2, up_j (by decide), e1, up_eq]
    · rw [e6, up_j (by decide), e5, up_j (by decide), e4, up_j (by decide), e3, up_j (by decide), e2, up_eq, e1, o1s]
    · rw [e6, up_j (by decide), e5, up_j (by decide), e4, up_j (by decide), e3, up_eq, e2, o1s, e1, o1s]
    · rw [e6, up_j (by decide), e5, up_j (by decide), e4, up_eq, e3, o1s, e2, o1s, e1, o1s]
    · rw [e6, up_j (by decide), e5, up_eq, e4, o1s, e3, o1s, e2, o1s, e1, o1s]
    · rw [e6, up_eq, e5, o1s, e4, o1s, e3, o1s, e2, o1s, e1, o1s]
  have v6 : ∀ k, k ≠ 6 → h6 k = h k := fun k hk => by rw [e6, up_k hk, e5, up_k hk, e4, up_k hk, e3, up_k hk, e2, up_k hk, e1, up_k hk]
  have w6 : ∀ k, h6 k o1 = h k o1 := fun k => by
    have z : o1 ≠ o := fun z => ho z.symm
    rw [e6, up_i z, e5, up_i z, e4, up_i z, e3, up_i z, e2, up_i z, e1, up_i z]
  have y6 : ∀ k i, i ≠ o → h6 k i = h k i := fun k i z => by rw [e6, up_i z, e5, up_i z, e4, up_i z, e3, up_i z, e2, up_i z, e1, up_i z]
  refine ⟨by omega, fun g1 f1 => ?_⟩
  obtain ⟨a1, b1, c1, d1⟩ := cp_row ho f1
  refine ⟨by omega, fun g2 f2 => ?_⟩
  obtain ⟨a2, b2, c2, d2⟩ := cp_row ho f2
  refine ⟨by omega, fun g3 f3 => ?_⟩
  obtain ⟨a3, b3, c3, d3⟩ := cp_row ho f3
  refine ⟨by omega, fun g4 f4 => ?_⟩
  obtain ⟨a4, b4, c4, d4⟩ := cp_row ho f4
  refine ⟨by omega, fun g5 f5 => ?_⟩
  obtain ⟨a5, b5, c5, d5⟩ := cp_row ho f5
  refine ⟨by omega, fun g6 f6 => ?_⟩
  obtain ⟨a6, b6, c6, d6⟩ := cp_row ho f6
  refine ⟨by omega, fun g7 f7 => ?_⟩
  obtain ⟨a7, b7, c7, d7⟩ := cp_row ho f7
  refine ⟨by omega, fun g8 f8 => ?_⟩
  obtain ⟨a8, b8, c8, d8⟩ := cp_row ho f8
  have e811 : g8 8 1 1 = π 0 1 := by
    rw [b8 8 (by decide), b7 8 (by decide), b6 8 (by decide), b5 8 (by decide), b4 8 (by decide), b3 8 (by decide), b2 8 (by decide), b1 8 (by decide), v6 8 (by decide)]; exact e81
  rw [e811]
  refine ⟨by omega, fun g9 f9 => ?_⟩
  obtain ⟨a9, b9, c9, d9⟩ := cp_row ho f9
  have r24 : ∀ j, 0 ≤ j → j < π 0 0 → g9 24 o j = h 24 o1 j := fun j j0 j1 => by rw [b9 24 (by decide), b8 24 (by decide), b7 24 (by decide), b6 24 (by decide), b5 24 (by decide), b4 24 (by decide), b3 24 (by decide), b2 24 (by decide), a1 j j0 j1, w6]
  have r25 : ∀ j, 0 ≤ j → j < π 0 0 → g9 25 o j = h 25 o1 j := fun j j0 j1 => by rw [b9 25 (by decide), b8 25 (by decide), b7 25 (by decide), b6 25 (by decide), b5 25 (by decide), b4 25 (by decide), b3 25 (by decide), a2 j j0 j1, c1, w6]
  have r26 : ∀ j, 0 ≤ j → j < π 0 0 → g9 26 o j = h 26 o1 j := fun j j0 j1 => by rw [b9 26 (by decide), b8 26 (by decide), b7 26 (by decide), b6 26 (by decide), b5 26 (by decide), b4 26 (by decide), a3 j j0 j1, c2, c1, w6]
  have r27 : ∀ j, 0 ≤ j → j < 13 → g9 27 o j = h 27 o1 j := fun j j0 j1 => by rw [b9 27 (by decide), b8 27 (by decide), b7 27 (by decide), b6 27 (by decide), b5 27 (by decide), a4 j j0 j1, c3, c2, c1, w6]
  have r28 : ∀ j, 0 ≤ j → j < π 0 0 → g9 28 o j = h 28 o1 j := fun j j0 j1 => by rw [b9 28 (by decide), b8 28 (by decide), b7 28 (by decide), b6 28 (by decide), a5 j j0 j1, c4, c3, c2, c1, w6]
  have r29 : ∀ j, 0 ≤ j → j < 13 → g9 29 o j = h 29 o1 j := fun j j0 j1 => by rw [b9 29 (by decide), b8 29 (by decide), b7 29 (by decide), a6 j j0 j1, c5, c4, c3, c2, c1, w6]
  have r30 : ∀ j, 0 ≤ j → j < π 0 0 * 20 → g9 30 o j = h 30 o1 j := fun j j0 j1 => by rw [b9 30 (by decide), b8 30 (by decide), a7 j j0 j1, c6, c5, c4, c3, c2, c1, w6]
  have r31 : ∀ j, 0 ≤ j → j < π 0 0 → g9 31 o j = h 31 o1 j := fun j j0 j1 => by rw [b9 31 (by decide), a8 j j0 j1, c7, c6, c5, c4, c3, c2, c1, w6]
  have r32 : ∀ j, 0 ≤ j → j < π 0 1 → g9 32 o j = h 32 o1 j := fun j j0 j1 => by rw [a9 j j0 j1, c8, c7, c6, c5, c4, c3, c2, c1, w6]
  have r6 : g9 6 o = h6 6 o := by rw [b9 6 (by decide), b8 6 (by decide), b7 6 (by decide), b6 6 (by decide), b5 6 (by decide), b4 6 (by decide), b3 6 (by decide), b2 6 (by decide), b1 6 (by decide)]
  have rs : ∀ k, g9 k o1 = h k o1 := fun k => by rw [c9, c8, c7, c6, c5, c4, c3, c2, c1, w6]
  have fr9 : FrL o h g9 := by
    intro kk i z
    by_cases hi : i = o
    · subst hi
      have nk : ¬ lnK kk := fun q => z ⟨rfl, q⟩
      unfold lnK at nk
      rw [b9 kk (by omega), b8 kk (by omega), b7 kk (by omega), b6 kk (by omega), b5 kk (by omega), b4 kk (by omega), b3 kk (by omega), b2 kk (by omega), b1 kk (by omega), v6 kk (by omega)]
    · rw [d9 kk i hi, d8 kk i hi, d7 kk i hi, d6 kk i hi, d5 kk i hi, d4 kk i hi, d3 kk i hi, d2 kk i hi, d1 kk i hi, y6 kk i hi]
  obtain ⟨⟨l1, l2, l3, l4, l5⟩, lh⟩ := lc
  have l5' : ∀ s, 0 ≤ s → s < 3 * π 0 0 → CurveC g9 o1 s σ := fun s s0 s1 => (l5 s s0 s1).keep (fun k _ _ => rs k)
  refine copyC_s ho ⟨n0, n12⟩ (fun s s0 s1 => (l5' s s0 (by omega)).2.2.2.2.2.1) (fun h' q1 q2 => ?_)
  have t : ∀ k, ¬ cuK k → h' k o = g9 k o := fun k hk => q1 k o (fun z => hk z.2)
  refine k h' (fr9.tr q1.frL) ⟨⟨?_, fun c c0 c1 => ?_, fun c hc => ?_, fun f f0 f1 => ?_, fun s s0 s1 => (l5' s s0 s1).copy (q2 s s0 (by omega))⟩, fun c hc => ?_⟩
  · rw [t 6 (by unfold cuK; omega), r6, u6.1, u6.2.1, u6.2.2.1, u6.2.2.2.1, u6.2.2.2.2.1, u6.2.2.2.2.2]; exact l1
  · obtain ⟨m1, m2, m3, m4, m5, m6⟩ := l2 c c0 c1
    refine ⟨?_, ?_, ?_, ?_, ?_, fun i i0 i1 => ?_⟩
    · rw [t 24 (by unfold cuK; omega), r24 c c0 c1]; exact m1
    · rw [t 25 (by unfold cuK; omega), r25 c c0 c1]; exact m2
    · rw [t 26 (by unfold cuK; omega), r26 c c0 c1]; exact m3
    · rw [t 28 (by unfold cuK; omega), r28 c c0 c1]; exact m4
    · rw [t 31 (by unfold cuK; omega), r31 c c0 c1]; exact m5
    · rw [t 31 (by unfold cuK; omega), r31 c c0 c1, t 30 (by unfold cuK; omega), r30 _ (by omega) (by omega)]; exact m6 i i0 i1
  · rw [t 27 (by unfold cuK; omega), r27 c (by omega) (by omega)]; exact l3 c hc
  · rw [t 32 (by unfold cuK; omega), r32 f f0 f1]; exact l4 f f0 f1
  · rw [t 29 (by unfold cuK; omega), r29 c (by omega) (by omega)]; exact lh c hc
def lostA (π : PL) (σ : ST) : Int := sumN (fun c => σ 5 c 0) (π 0 0).toNat
def activeA (π : PL) (σ : ST) : Int := sumN (fun c => if 0 < σ 6 c 0 then 1 else 0) (π 0 0).toNat
def sentA (π : PL) (σ : ST) : Int := sumN (fun c => if π 1 c = 12 then σ 1 c 0 else 0) (π 0 0).toNat
def bytesA (σ : ST) (c : Int) : Int := sumN (fun i => σ 7 c i) (σ 6 c 0).toNat
theorem bytes_c {h : HP} {L K c : Int} {π : PL} {σ : ST} {P : Int → HP → Prop} (x : LX h L π K σ) (c0 : 0 ≤ c) (c1 : c < π 0 0) (k : P (bytesA σ c) h) : wX6_bytes L c h P := by
  have q := x.2.2.1.qln c c0 c1
  unfold wX6_bytes
  have loop : ∀ (d m : Nat), (σ 6 c 0).toNat - m = d → m ≤ (σ 6 c 0).toNat → wX6_bytes_4 L c (fun l9 h10 => P l9 h10) (d + 1) (sumN (fun i => σ 7 c i) m) m h := by
    intro d
    induction d with
    | zero =>
      intro m hd hm
      rw [wX6_bytes_4]
      have e : m = (σ 6 c 0).toNat := by omega
      subst e
      exact packets_c x c0 c1 ⟨by omega, by omega, fun _ => k, fun z => absurd (by omega) z⟩
    | succ d ih =>
      intro m hd hm
      rw [wX6_bytes_4]
      exact packets_c x c0 c1 ⟨by omega, by omega, fun z => absurd z (by omega), fun _ => sizeOf_c x c0 c1 (by omega) (ih (m + 1) (by omega) (by omega))⟩
  exact ⟨_, loop _ 0 rfl (by omega)⟩
theorem active_c {h : HP} {L K : Int} {π : PL} {σ : ST} {P : Int → HP → Prop} (x : LX h L π K σ) (k : P (activeA π σ) h) : wX6_activeLeaves L h P := by
  have n0 := x.1.1.1
  have n12 := x.1.1.2.1
  have e8 : h 8 1 0 = π 0 0 := x.2.1.1.1
  unfold wX6_activeLeaves
  have loop : ∀ (d m : Nat), (π 0 0).toNat - m = d → m ≤ (π 0 0).toNat → wX6_activeLeaves_4 L (fun l12 h13 => P l12 h13) (d + 1) (sumN (fun c => if 0 < σ 6 c 0 then 1 else 0) m) m h := by
    intro d
    induction d with
    | zero =>
      intro m hd hm
      rw [wX6_activeLeaves_4, e8]
      have e : m = (π 0 0).toNat := by omega
      subst e
      exact ⟨by omega, by omega, fun _ => k, fun z => absurd (by omega) z⟩
    | succ d ih =>
      intro m hd hm
      have q := x.2.2.1.qln m (by omega) (by omega)
      rw [wX6_activeLeaves_4, e8]
      refine ⟨by omega, by omega, fun z => absurd z (by omega), fun _ => packets_c x (by omega) (by omega) ⟨by omega, fun t7 h7 => ?_⟩⟩
      have e : t7 = if 0 < σ 6 m 0 then 1 else 0 := by
        by_cases z : σ 6 m 0 ≤ 0
        · rw [if_neg (by omega)]; exact h7.1 z
        · rw [if_pos (by omega)]; exact h7.2 z
      rw [e]
      exact ih (m + 1) (by omega) (by omega)
  exact ⟨_, loop _ 0 rfl (by omega)⟩
theorem lost_c {h : HP} {L K : Int} {π : PL} {σ : ST} {P : Int → HP → Prop} (x : LX h L π K σ) (k : P (lostA π σ) h) : wX6_allLost L h P := by
  have n0 := x.1.1.1
  have n12 := x.1.1.2.1
  have e8 : h 8 1 0 = π 0 0 := x.2.1.1.1
  unfold wX6_allLost
  have loop : ∀ (d m : Nat), (π 0 0).toNat - m = d → m ≤ (π 0 0).toNat → wX6_allLost_4 L h (fun l6 => P l6 h) (d + 1) (sumN (fun c => σ 5 c 0) m) m := by
    intro d
    induction d with
    | zero =>
      intro m hd hm
      rw [wX6_allLost_4, e8]
      have e : m = (π 0 0).toNat := by omega
      subst e
      exact ⟨by omega, by omega, fun _ => k, fun z => absurd (by omega) z⟩
    | succ d ih =>
      intro m hd hm
      rw [wX6_allLost_4, e8, (x.2.2.2.1.2.1 m (by omega) (by omega)).2.2.2.1]
      exact ⟨by omega, by omega, fun z => absurd z (by omega), fun _ => ⟨by omega, ih (m + 1) (by omega) (by omega)⟩⟩
  exact ⟨_, loop _ 0 rfl (by omega)⟩
theorem sent_c {h : HP} {L K : Int} {π : PL} {σ : ST} {P : Int → HP → Prop} (x : LX h L π K σ) (k : P (sentA π σ) h) : wX6_allSent L h P := by
  have n0 := x.1.1.1
  have n12 := x.1.1.2.1
  have kr := kids_rng x.1.1 12
  have e38 : h 38 1 12 = kids π 12 := x.2.1.2.2.1 12 (by omega)
  unfold wX6_allSent
  have loop : ∀ (d m : Nat), (π 0 0).toNat - m = d → m ≤ (π 0 0).toNat → wX6_allSent_4 L h (fun l7 => P l7 h) ((kids π 12 - kidN π 12 m).toNat + 1) (sumN (fun c => if π 1 c = 12 then σ 1 c 0 else 0) m) (kidN π 12 m) := by
    intro d
    induction d with
    | zero =>
      intro m hd hm
      have e : m = (π 0 0).toNat := by omega
      subst e
      have e2 : kidN π 12 (π 0 0).toNat = kids π 12 := rfl
      rw [e2, wX6_allSent_4, e38]
      exact ⟨by omega, by omega, fun _ => k, fun z => absurd (Int.le_refl _) z⟩
    | succ d ih =>
      intro m hd hm
      have hn := ih (m + 1) (by omega) (by omega)
      have kp0 := (kidN_pos (π := π) (c := 12) m).1
      have kp1 := (kidN_pos (π := π) (c := 12) m).2.1
      by_cases q : π 1 m = 12
      · have hk := kid_at x.2.1 (by omega) q
        have kl := kidN_lt q (by omega)
        rw [kidN_y q] at hn
        rw [show (kids π 12 - kidN π 12 m).toNat = (kids π 12 - (kidN π 12 m + 1)).toNat + 1 by omega, wX6_allSent_4, e38, show (144 : Int) + kidN π 12 m = 12 * 12 + kidN π 12 m by omega, hk, (x.2.2.2.1.2.1 m (by omega) (by omega)).1]
        refine ⟨by omega, by omega, fun z => absurd z (by omega), fun _ => ⟨by omega, by omega, ?_⟩⟩
        have e : sumN (fun c => if π 1 c = 12 then σ 1 c 0 else 0) (m + 1) = sumN (fun c => if π 1 c = 12 then σ 1 c 0 else 0) m + σ 1 m 0 := by
          show _ + (if π 1 m = 12 then σ 1 m 0 else 0) = _
          rw [if_pos q]
        rw [e] at hn
        exact hn
      · rw [kidN_n q] at hn
        have e : sumN (fun c => if π 1 c = 12 then σ 1 c 0 else 0) (m + 1) = sumN (fun c => if π 1 c = 12 then σ 1 c 0 else 0) m := by
          show _ + (if π 1 m = 12 then σ 1 m 0 else 0) = _
          rw [if_neg q]; omega
        rw [e] at hn
        exact hn
  exact ⟨_, loop _ 0 rfl (by omega)⟩
theorem fitOf_c {h : HP} {L K c : Int} {π : PL} {σ : ST} {P : Int → HP → Prop} (x : LX h L π K σ) (c0 : 0 ≤ c) (c1 : c < π 0 0) (ha : 0 < hel π σ c) (k : ∀ h', Fr33 L h h' → P (fitA π σ c) h') : wX6_fitOf L c h P := by
  have n12 := x.1.1.2.1
  unfold wX6_fitOf
  refine fits_c x (fun h' f hf => ⟨by omega, ?_⟩)
  rw [hf c c0 c1 ha]
  exact k h' f
