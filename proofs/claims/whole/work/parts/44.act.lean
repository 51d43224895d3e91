/-! acts, in the world -/
def refT (t : TX) (i : Int) : TX := (t.1, t.2.1, t.2.2.1, fun j => if j = i then t.2.2.2 j + 1 else t.2.2.2 j)
def keepS (s : SD) : SD := (s.1, keepN s.2.1, keepH s.2.1 s.2.2.1 s.1, s.2.2.2.1, s.2.2.2.2)
def setS (s : SD) (σ : ST) : SD := (σ, s.2)
theorem refuse_c {h : HP} {π : PL} {s : SD} {im : IM} {t : TX} {i : Int} {P : Int → HP → Prop} (ci : CI h π s im t) (hi : 0 ≤ i ∧ i < 3) (k : ∀ h', FrCm h h' → CI h' π s im (refT t i) → P (-1) h') : wX11_refuse 0 i h P := by
  unfold wX11_refuse
  refine ⟨hi, hi, fun h2 e2 => k h2 (fun k hk => by rw [e2, up_k (by omega)]) ?_⟩
  obtain ⟨q1, q2, ⟨i1, i2⟩, t1, t2, t3, t4⟩ := ci
  have g : ∀ k, k ≠ 46 → h2 k = h k := fun k hk => by rw [e2, up_k hk]
  refine ⟨q1.congr (fun k hk => by rw [g k (by omega)]), q2.cg (fun k hk _ => by rw [g k (by unfold lnK at hk; omega)]) (by rw [g 5 (by decide)]) (fun k i hk _ _ => by rw [g k (by unfold lnK at hk; omega)]) (fun k hk => by rw [g k (by unfold ntK at hk; omega)]), ⟨by rw [g 11 (by decide)]; exact i1, fun z => ⟨(i2 z).1.cg (fun k hk _ => by rw [g k (by unfold lnK at hk; omega)]) (by rw [g 5 (by decide)]) (fun k i hk _ _ => by rw [g k (by unfold lnK at hk; omega)]) (fun k hk => by rw [g k (by unfold ntK at hk; omega)]), by rw [g 47 (by decide)]; exact (i2 z).2⟩⟩, by rw [g 11 (by decide)]; exact t1, by rw [g 45 (by decide)]; exact t2, by rw [g 11 (by decide)]; exact t3, fun j j0 j1 => ?_⟩
  rw [e2, up_ji]
  show _ = if j = i then t.2.2.2 j + 1 else t.2.2.2 j
  by_cases z : j = i
  · rw [if_pos z, if_pos z, ← z, t4 j j0 j1]
  · rw [if_neg z, if_neg z]; exact t4 j j0 j1
theorem refuse_r {h : HP} {π : PL} {s : SD} {im : IM} {t : TX} {i : Int} {P : Int → HP → Prop} (hp : PlanOK π) (hq : QLn π s.1) (ri : RI h π s im t) (hi : 0 ≤ i ∧ i < 3) (k : ∀ h', (∀ k, k ≠ 57 → h' k = h k) → RI h' π s im (refT t i) → P (-1) h') : wX12_refuse 7 i h P := by
  unfold wX12_refuse
  refine ⟨hi, hi, fun h2 e2 => k h2 (fun k hk => by rw [e2, up_k hk]) ?_⟩
  obtain ⟨q1, ⟨s1, ⟨p1, p2, p3⟩, s3, s4⟩, ⟨i1, i2⟩, ⟨t1, t2, t3, t4⟩, id⟩ := ri
  have g : ∀ k, k ≠ 57 → h2 k = h k := fun k hk => by rw [e2, up_k hk]
  refine ⟨q1.congr (fun k k1 k2 => g k (by omega)), ⟨by rw [g 56 (by decide)]; exact s1, ⟨by rw [g 12 (by decide)]; exact p1, p2, by rw [g 62 (by decide)]; exact p3⟩, by rw [g 12 (by decide)]; exact s3, ?_⟩, ⟨by rw [g 12 (by decide)]; exact i1, fun z => ?_⟩, ⟨by rw [g 12 (by decide)]; exact t1, by rw [g 58 (by decide)]; exact t2, by rw [g 12 (by decide)]; exact t3, fun j j0 j1 => ?_⟩, id.f12 (g 12 (by decide))⟩
  · unfold NoteR at *; rw [g 64 (by decide), g 65 (by decide), g 66 (by decide)]; exact s4
  · have := i2 z
    unfold SideI NoteR at *
    rw [g 71 (by decide), g 12 (by decide), g 72 (by decide), g 73 (by decide), g 74 (by decide), g 75 (by decide), g 76 (by decide)]
    exact this
  · rw [e2, up_ji]
    show _ = if j = i then t.2.2.2 j + 1 else t.2.2.2 j
    by_cases z : j = i
    · rw [if_pos z, if_pos z, ← z, t4 j j0 j1]
    · rw [if_neg z, if_neg z]; exact t4 j j0 j1
/-- a changed line, and what is kept -/
theorem CI.line {h h' : HP} {π : PL} {s : SD} {im : IM} {t : TX} {σ : ST} (q : CI h π s im t) (f : FrL 10 h h') (l : LineC h' 10 π σ) : CI h' π (setS s σ) im t := by
  obtain ⟨q1, ⟨q2, q3, q4⟩, ⟨i1, i2⟩, t1, t2, t3, t4⟩ := q
  have h3 : hb 3 = 20 := rfl
  have h4 : hb 4 = 60 := rfl
  refine ⟨q1.fr f, ⟨l, q3.frL f (by omega), q4.congr (fun k hk => f k 5 (by omega))⟩, ⟨by rw [f 11 0 (by omega)]; exact i1, fun z => ?_⟩, by rw [f 11 0 (by omega)]; exact t1, by rw [f 45 0 (by omega)]; exact t2, by rw [f 11 0 (by omega)]; exact t3, by rw [f 46 0 (by omega)]; exact t4⟩
  obtain ⟨⟨j1, j2, j3⟩, j4⟩ := i2 z
  exact ⟨⟨j1.fr f (by decide), j2.frL f (by omega), j3.congr (fun k hk => f k 6 (by omega))⟩, by rw [f 47 0 (by omega)]; exact j4⟩
theorem keepS_c {h : HP} {π : PL} {s : SD} {im : IM} {t : TX} {P : HP → Prop} (hp : PlanOK π) (ci : CI h π s im t) (k : ∀ h', FrCm h h' → CI h' π (keepS s) im t → P h') : wX5_keep 3 10 h P := by
  obtain ⟨q1, ⟨q2, q3, q4⟩, ⟨i1, i2⟩, t1, t2, t3, t4⟩ := ci
  have h3 : hb 3 = 20 := rfl
  have h4 : hb 4 = 60 := rfl
  refine keep_c hp q1 q2 (by omega) q3 (fun h' f hh => k h' (fun k hk => ?_) ?_)
  · funext i
    exact f k i (by omega) (by unfold lnK; omega)
  · refine ⟨q1.frH f, ⟨q2.frH f (by omega), hh, q4.congr (fun k hk => f k 5 (by unfold ntK at hk; omega) (by unfold ntK at hk; unfold lnK; omega))⟩, ⟨by rw [f 11 0 (by omega) (by unfold lnK; omega)]; exact i1, fun z => ?_⟩, by rw [f 11 0 (by omega) (by unfold lnK; omega)]; exact t1, by rw [f 45 0 (by omega) (by unfold lnK; omega)]; exact t2, by rw [f 11 0 (by omega) (by unfold lnK; omega)]; exact t3, by rw [f 46 0 (by omega) (by unfold lnK; omega)]; exact t4⟩
    obtain ⟨⟨j1, j2, j3⟩, j4⟩ := i2 z
    exact ⟨⟨j1.frH f (by omega), j2.fr (f 5 4 (by omega) (by unfold lnK; omega)) (fun k i hk i0 i1 => f k i (by unfold lnK at hk; omega) (by omega)), j3.congr (fun k hk => f k 6 (by unfold ntK at hk; omega) (by unfold ntK at hk; unfold lnK; omega))⟩, by rw [f 47 0 (by omega) (by unfold lnK; omega)]; exact j4⟩
theorem keepS_r {h : HP} {π : PL} {K : Int} {s : SD} {im : IM} {t : TX} {P : HP → Prop} (hp : PlanOK π) (sa : SA π K s) (ri : RI h π s im t) (k : ∀ h', FrP h h' → RI h' π (keepS s) im t → P h') : wX12_keep 7 h P := by
  obtain ⟨q1, ⟨s1, p1, s3, s4⟩, ⟨i1, i2⟩, ⟨t1, t2, t3, t4⟩, id⟩ := ri
  refine keep_r hp s1 (fun b b0 b1 => sa.1.1.qln b b0 b1) p1 (fun i i0 i1 b b0 b1 => (sa.2.2.1 i i0 i1).1.qln b b0 b1) (fun h' f pa => k h' f ?_)
  have g : ∀ k, k ≠ 12 → k ≠ 62 → h' k = h k := f.1
  refine ⟨q1.congr (fun k k1 k2 => g k (by omega) (by omega)), ⟨by rw [g 56 (by decide) (by decide)]; exact s1, pa, by rw [f.2 38 (by decide)]; exact s3, ?_⟩, ⟨by rw [f.2 50 (by decide)]; exact i1, fun z => ?_⟩, ⟨by rw [f.2 12 (by decide)]; exact t1, by rw [g 58 (by decide) (by decide)]; exact t2, by rw [f.2 21 (by decide)]; exact t3, by rw [g 57 (by decide) (by decide)]; exact t4⟩, ?_⟩
  · unfold NoteR at *; rw [g 64 (by decide) (by decide), g 65 (by decide) (by decide), g 66 (by decide) (by decide)]; exact s4
  · have := i2 z
    unfold SideI NoteR at *
    rw [g 71 (by decide) (by decide), f.2 51 (by decide), g 72 (by decide) (by decide), f.2 52 (by decide), g 73 (by decide) (by decide), g 74 (by decide) (by decide), g 75 (by decide) (by decide), g 76 (by decide) (by decide)]
    exact this
  · unfold IdleR at *
    rw [f.2 29 (by decide), f.2 32 (by decide), f.2 31 (by decide), f.2 33 (by decide)]; exact id
theorem RI.row {h h' : HP} {π : PL} {s : SD} {im : IM} {t : TX} {σ : ST} (q : RI h π s im t) (f : FrU h h') (row : RowR (h' 56 7) π σ) (i : IdleR h') : RI h' π (setS s σ) im t := by
  obtain ⟨q1, ⟨s1, ⟨p1, p2, p3⟩, s3, s4⟩, ⟨i1, i2⟩, ⟨t1, t2, t3, t4⟩, -⟩ := q
  have g : ∀ k, (k ≠ 12 ∧ k ≠ 56 ∧ k ≠ 59 ∧ k ≠ 60 ∧ k ≠ 61) → h' k = h k := fun k hk => f.1 k hk.1 hk.2.1 hk.2.2.1 hk.2.2.2.1 hk.2.2.2.2
  have j : ∀ j, (28 < j ∨ j < 23) → j ≠ 31 → j ≠ 33 → h' 12 7 j = h 12 7 j := fun j h1 h2 h3 => f.2 j (by omega) h2 h3
  refine ⟨q1.fu f, ⟨row, ⟨by rw [j 35 (by omega) (by decide) (by decide)]; exact p1, p2, by rw [g 62 (by decide)]; exact p3⟩, by rw [j 38 (by omega) (by decide) (by decide)]; exact s3, ?_⟩, ⟨by rw [j 50 (by omega) (by decide) (by decide)]; exact i1, fun z => ?_⟩, ⟨by rw [j 12 (by omega) (by decide) (by decide)]; exact t1, by rw [g 58 (by decide)]; exact t2, by rw [j 21 (by omega) (by decide) (by decide)]; exact t3, by rw [g 57 (by decide)]; exact t4⟩, i⟩
  · unfold NoteR at *; rw [g 64 (by decide), g 65 (by decide), g 66 (by decide)]; exact s4
  · have := i2 z
    unfold SideI NoteR at *
    rw [g 71 (by decide), j 51 (by omega) (by decide) (by decide), g 72 (by decide), j 52 (by omega) (by decide) (by decide), g 73 (by decide), g 74 (by decide), g 75 (by decide), g 76 (by decide)]
    exact this
/-- the ranges -/
theorem LInv.mono {π : PL} {K K' : Int} {σ : ST} (l : LInv π K σ) (h : K ≤ K') : LInv π K' σ := ⟨l.1.mono h, l.2⟩
theorem SA.mono {π : PL} {K K' : Int} {s : SD} (a : SA π K s) (h : K ≤ K') : SA π K' s := ⟨a.1.mono h, a.2.1, fun i i0 i1 => (a.2.2.1 i i0 i1).mono h, a.2.2.2⟩
theorem WA.mono {π : PL} {K K' : Int} {s : SD} {im : IM} {t : TX} (w : WA π K s im t) (h : K ≤ K') : WA π K' s im t := ⟨w.1, w.2.1.mono h, w.2.2.1, fun z => (w.2.2.2.1 z).mono h, w.2.2.2.2⟩
theorem SA.keep {π : PL} {K : Int} {s : SD} (a : SA π K s) : SA π K (keepS s) := by
  obtain ⟨a1, a2, a3, a4⟩ := a
  refine ⟨a1, ?_, fun i i0 i1 => ?_, a4⟩
  · show 0 ≤ keepN s.2.1 ∧ keepN s.2.1 ≤ 40
    unfold keepN; split <;> omega
  · have i1' : i < keepN s.2.1 := i1
    show LInv π K (keepH s.2.1 s.2.2.1 s.1 i)
    unfold keepN at i1'
    unfold keepH
    by_cases c : s.2.1 < 40
    · rw [if_pos c] at i1' ⊢
      show LInv π K (if i = s.2.1 then s.1 else s.2.2.1 i)
      by_cases z : i = s.2.1
      · rw [if_pos z]; exact a1
      · rw [if_neg z]; exact a3 i i0 (by omega)
    · rw [if_neg c] at i1' ⊢
      show LInv π K (if i = 39 then s.1 else s.2.2.1 (i + 1))
      by_cases z : i = 39
      · rw [if_pos z]; exact a1
      · rw [if_neg z]; exact a3 (i + 1) (by omega) (by omega)
theorem SA.set {π : PL} {K : Int} {s : SD} {σ : ST} (a : SA π K s) (l : LInv π K σ) : SA π K (setS s σ) := ⟨l, a.2⟩
theorem WA.ref {π : PL} {K : Int} {s : SD} {im : IM} {t : TX} {i : Int} (w : WA π K s im t) : WA π K s im (refT t i) := w
/-! come -/
noncomputable def comeP (π : PL) (c z : Int) : Prop := ((0 ≤ c ∧ c < π 0 0) ∧ kids π c = 0) ∧ 1 ≤ z ∧ z ≤ 64
theorem come_c {h : HP} {π : PL} {K c z : Int} {s : SD} {im : IM} {t : TX} {P : Int → HP → Prop} (w : WA π K s im t) (ci : CI h π s im t) (hc : inR c) (hz : inR z)
    (k : ∀ h', FrCm h h' → comeP π c z → CI h' π (setS (keepS s) (acceptA π s.1 c z)) im t → P (acceptA π s.1 c z 6 c 0) h') (kx : ∀ h', FrCm h h' → ¬ comeP π c z → CI h' π s im (refT t 1) → P (-1) h') : wX11_come 0 c z h P := by
  have hp := w.1
  unfold inR at hz
  have no : ¬ comeP π c z → wX11_refuse 0 1 h (fun x6 h5 => P x6 h5) := fun n => refuse_c ci (by decide) (fun h' f c' => kx h' f n c')
  unfold wX11_come
  refine hasLeaf_c hp ci.1 hc (fun y hy hq => ⟨by omega, fun u => no (fun v => by have := hq.mpr v.1; omega), fun u => ⟨hz, fun u2 => no (fun v => by have := v.2; omega), fun u2 => ⟨hz, fun u3 => ?_, fun u3 => no (fun v => by have := v.2; omega)⟩⟩⟩)
  have cc := hq.mp (by omega)
  refine keepS_c hp ci (fun h1 f1 c1 => accept_c hp c1.1 w.2.1.1.1 c1.2.1.1 cc.1.1 cc.1.2 cc.2 (by omega) (fun h2 f2 l2 => ?_))
  have ai := acceptA_inv hp.1 w.2.1.1.1 cc.1.1 cc.1.2 cc.2 (show 1 ≤ z ∧ z ≤ 64 by omega)
  have c2 := c1.line f2 l2
  exact packets_c (K := K + 1) ⟨hp, c2.1, ai, l2⟩ cc.1.1 cc.1.2 (k h2 (fun k hk => by rw [f2.cm k hk, f1 k hk]) ⟨cc, by omega⟩ c2)
theorem come_r {h : HP} {π : PL} {K c z : Int} {s : SD} {im : IM} {t : TX} {P : Int → HP → Prop} (w : WA π K s im t) (ri : RI h π s im t) (hc : inR c) (hz : inR z)
    (k : ∀ h', FrRf h h' → h' 12 7 1 = 0 → comeP π c z → RI h' π (setS (keepS s) (acceptA π s.1 c z)) im t → P (acceptA π s.1 c z 6 c 0) h') (kx : ∀ h', FrRf h h' → h' 12 7 1 = 0 → ¬ comeP π c z → RI h' π s im (refT t 1) → P (-1) h') : wX12_come 7 c z h P := by
  have hp := w.1
  have n12 := hp.1.2.1
  unfold wX12_come
  intro h1 e1
  have o1 : OkR h h1 0 := by rw [e1]; exact OkR.start ri.2.2.2.2 0
  have ri1 := o1.ri w ri
  have no : ¬ comeP π c z → wX12_refuse 7 1 h1 (fun x6 h5 => P x6 h5) := fun n => refuse_r hp w.qln ri1 (by decide) (fun h' f r' => kx h' (fun k k1 k2 => by rw [f k (by omega), o1.1.rfr k k1 k2]) (by rw [f 12 (by decide)]; exact o1.2.2) n r')
  refine isLeafThere_r hp ri1.1 hc (fun y hy hq => ⟨by omega, fun u => no (fun v => by have := hq.mpr v.1; omega), fun u => ?_⟩)
  refine isIn_r hz (by omega) (by omega) (fun y2 hy2 hq2 => ⟨by omega, fun u2 => ?_, fun u2 => no (fun v => by have := hq2.mpr v.2; omega)⟩)
  have cc := hq.mp (by omega)
  have rz := hq2.mp (by omega)
  refine keepS_r hp w.2.1 ri1 (fun h2 f2 r2 => ?_)
  have x2 : RX h2 π K s.1 := ⟨hp, r2.1, w.2.1.1.1, r2.2.1.1⟩
  refine comes_r x2 cc.1.1 cc.1.2 cc.2 rz (fun y3 h3 _ _ f3 x3 => ?_)
  rw [(x3.2.2.2.2.2 c cc.1.1 cc.1.2).1.2.2.2.2.2]
  have i3 : IdleR h3 := by
    have := r2.2.2.2.2
    unfold IdleR at *
    rw [f3.2 29 (by decide) (by decide), f3.2 32 (by decide) (by decide), f3.2 31 (by decide) (by decide), f3.2 33 (by decide) (by decide)]; exact this
  refine ⟨by omega, k h3 (fun k k1 k2 => ?_) ?_ ⟨cc, rz⟩ (r2.row f3.u x3.2.2.2 i3)⟩
  · rw [f3.1 k k1 (by omega) (by omega) (by omega), f2.1 k k1 (by omega), o1.1.rfr k k1 k2]
  · rw [f3.2 1 (by decide) (by decide), f2.2 1 (by decide)]; exact o1.2.2
