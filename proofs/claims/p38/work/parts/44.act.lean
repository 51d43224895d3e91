def refT (t : TX) (i : Int) : TX := (t.1, t.2.1, t.2.2.1, fun j => if j = i then t.2.2.2 j + 1 else t.2.2.2 j)
def keepS (s : SD) : SD := (s.1, keepN s.2.1, keepH s.2.1 s.2.2.1 s.1, s.2.2.2.1, s.2.2.2.2)
def setS (s : SD) (σ : ST) : SD := (σ, s.2)
theorem refuse_c {h : HP} {π : PL} {s : SD} {im : IM} {t : TX} {i : Int} {P : Int → HP → Prop} (ci : CI h π s im t) (hi : 0 ≤ i ∧ i < 3) (k : ∀ h', FrCm h h' → CI h' π s im (refT t i) → P (-1) h') : wX11_refuse 0 i h P := by
  unfold wX11_refuse
  refine ⟨hi, hi, fun h2 e2 => k h2 (fun k hk => by rw [e2, up_k (by omega)]) ?_⟩
  obtain ⟨q1, q2, ⟨i1, i2⟩, t1, t2, t3, t4⟩ := ci
  have g : ∀ k, k ≠ 46 → h2 k = h k := fun k hk => by rw [e2, up_k hk]
  refine ⟨q1.congr (fun k hk => by rw [g k (by omega)]), q2.cg (fun k hk _ => by rw [g k (by unfold lnK at hk; omega)]) (by rw [g 5 (by decide)]) (fun k i hk _ _ => by rw [g k (by unfold lnK at hk; omega)]) (fun k hk => by rw [g k (by unfold ntK at hk; omega)]), ⟨by rw [g 11 (by decide)]; exact i1, fun z => ⟨(i2 z).1.cg (fun k hk _ => by rw [g k (by unfold lnK at hk; omega)]) (by rw [g 5 (by decide)]) (fun k i hk _ _ => by rw [g k (by unfold lnK at hk; omega)]) (fun k hk => by rw [g k (by unfold ntK at hk; omega)]), by rw [g 47 (by decide)]; exact (i2 z).2⟩⟩, by rw [g 11 (by decide)]; exact t1, by rw [g 45 (by decide)]; exact t2, by rw [g 11 (by decide)]; exact t3, fun j j0 j1 => ?_⟩
  rw [e2, up_ji]
  show _ = if j = i then t.2.2.2 j + 1 else t.2.2.2 j
  by_cases z : j = i
  · rw [if_pos z, if_pos z, ← z, t4 j j0 j1]
  · rw [if_neg z, if_neg z]; exact t4 j j0 j1
/-- a changed line, and what is kept -/
theorem CI.line {h h' : HP} {π : PL} {s : SD} {im : IM} {t : TX} {σ : ST} (q : CI h π s im t) (f : FrL 10 h h') (l : LineC h' 10 π σ) : CI h' π (setS s σ) im t := by
  obtain ⟨q1, ⟨q2, q3, q4⟩, ⟨i1, i2⟩, t1, t2, t3, t4⟩ := q
  have h3 : hb 3 = 20 := rfl
  have h4 : hb 4 = 60 := rfl
  refine ⟨q1.fr f, ⟨l, q3.frL f (by omega), q4.congr (fun k hk => f k 5 (by omega))⟩, ⟨by rw [f 11 0 (by omega)]; exact i1, fun z => ?_⟩, by rw [f 11 0 (by omega)]; exact t1, by rw [f 45 0 (by omega)]; exact t2, by rw [f 11 0 (by omega)]; exact t3, by rw [f 46 0 (by omega)]; exact t4⟩
  obtain ⟨⟨j1, j2, j3⟩, j4⟩ := i2 z
  exact ⟨⟨j1.fr f (by decide), j2.frL f (by omega), j3.congr (fun k hk => f k 6 (by omega))⟩, by rw [f 47 0 (by omega)]; exact j4⟩
theorem keepS_c {h : HP} {π : PL} {s : SD} {im : IM} {t : TX} {P : HP → Prop} (hp : PlanOK π) (ci : CI h π s im t) (k : ∀ h', FrCm h h' → CI h' π (keepS s) im t → P h') : wX5_keep 3 10 h P := by
  obtain ⟨q1, ⟨q2, q3, q4⟩, ⟨i1, i2⟩, t1, t2, t3, t4⟩ := ci
  have h3 : hb 3 = 20 := rfl
  have h4 : hb 4 = 60 := rfl
  refine keep_c hp q1 q2 (by omega) q3 (fun h' f hh => k h' (fun k hk => ?_) ?_)
  · funext i
    exact f k i (by omega) (by unfold lnK; omega)
  · refine ⟨q1.frH f, ⟨q2.frH f (by omega), hh, q4.congr (fun k hk => f k 5 (by unfold ntK at hk; omega) (by unfold ntK at hk; unfold lnK; omega))⟩, ⟨by rw [f 11 0 (by omega) (by unfold lnK; omega)]; exact i1, fun z => ?_⟩, by rw [f 11 0 (by omega) (by unfold lnK; omega)]; exact t1, by rw [f 45 0 (by omega) (by unfold lnK; omega)]; exact t2, by rw [f 11 0 (by omega) (by unfold lnK; omega)]; exact t3, by rw [f 46 0 (by omega) (by unfold lnK; omega)]; exact t4⟩
    obtain ⟨⟨j1, j2, j3⟩, j4⟩ := i2 z
    exact ⟨⟨j1.frH f (by omega), j2.fr (f 5 4 (by omega) (by unfold lnK; omega)) (fun k i hk i0 i1 => f k i (by unfold lnK at hk; omega) (by omega)), j3.congr (fun k hk => f k 6 (by unfold ntK at hk; omega) (by unfold ntK at hk; unfold lnK; omega))⟩, by rw [f 47 0 (by omega) (by unfold lnK; omega)]; exact j4⟩
/-- the ranges -/
theorem LInv.mono {π : PL} {K K' : Int} {σ : ST} (l : LInv π K σ) (h : K ≤ K') : LInv π K' σ := ⟨l.1.mono h, l.2⟩
theorem SA.mono {π : PL} {K K' : Int} {s : SD} (a : SA π K s) (h : K ≤ K') : SA π K' s := ⟨a.1.mono h, a.2.1, fun i i0 i1 => (a.2.2.1 i i0 i1).mono h, a.2.2.2⟩
theorem WA.mono {π : PL} {K K' : Int} {s : SD} {im : IM} {t : TX} (w : WA π K s im t) (h : K ≤ K') : WA π K' s im t := ⟨w.1, w.2.1.mono h, w.2.2.1, fun z => (w.2.2.2.1 z).mono h, w.2.2.2.2⟩
theorem SA.keep {π : PL} {K : Int} {s : SD} (a : SA π K s) : SA π K (keepS s) := by
  obtain ⟨a1, a2, a3, a4⟩ := a
  refine ⟨a1, ?_, fun i i0 i1 => ?_, a4⟩
  · show 0 ≤ keepN s.2.1 ∧ keepN s.2.1 ≤ 40
    unfold keepN; split <;> omega
  · have i1' : i < keepN s.2.1 := i1
    show LInv π K (keepH s.2.1 s.2.2.1 s.1 i)
    unfold keepN at i1'
    unfold keepH
    by_cases c : s.2.1 < 40
    · rw [if_pos c] at i1' ⊢
      show LInv π K (if i = s.2.1 then s.1 else s.2.2.1 i)
      by_cases z : i = s.2.1
      · rw [if_pos z]; exact a1
      · rw [if_neg z]; exact a3 i i0 (by omega)
    · rw [if_neg c] at i1' ⊢
      show LInv π K (if i = 39 then s.1 else s.2.2.1 (i + 1))
      by_cases z : i = 39
      · rw [if_pos z]; exact a1
      · rw [if_neg z]; exact a3 (i + 1) (by omega) (by omega)
theorem SA.set {π : PL} {K : Int} {s : SD} {σ : ST} (a : SA π K s) (l : LInv π K σ) : SA π K (setS s σ) := ⟨l, a.2⟩
noncomputable def comeP (π : PL) (c z : Int) : Prop := ((0 ≤ c ∧ c < π 0 0) ∧ kids π c = 0) ∧ 1 ≤ z ∧ z ≤ 64
theorem come_c {h : HP} {π : PL} {K c z : Int} {s : SD} {im : IM} {t : TX} {P : Int → HP → Prop} (w : WA π K s im t) (ci : CI h π s im t) (hc : inR c) (hz : inR z)
    (k : ∀ h', FrCm h h' → comeP π c z → CI h' π (setS (keepS s) (acceptA π s.1 c z)) im t → P (acceptA π s.1 c z 6 c 0) h') (kx : ∀ h', FrCm h h' → ¬ comeP π c z → CI h' π s im (refT t 1) → P (-1) h') : wX11_come 0 c z h P := by
  have hp := w.1
  unfold inR at hz
  have no : ¬ comeP π c z → wX11_refuse 0 1 h (fun x6 h5 => P x6 h5) := fun n => refuse_c ci (by decide) (fun h' f c' => kx h' f n c')
  unfold wX11_come
  refine hasLeaf_c hp ci.1 hc (fun y hy hq => ⟨by omega, fun u => no (fun v => by have := hq.mpr v.1; omega), fun u => ⟨hz, fun u2 => no (fun v => by have := v.2; omega), fun u2 => ⟨hz, fun u3 => ?_, fun u3 => no (fun v => by have := v.2; omega)⟩⟩⟩)
  have cc := hq.mp (by omega)
  refine keepS_c hp ci (fun h1 f1 c1 => accept_c hp c1.1 w.2.1.1.1 c1.2.1.1 cc.1.1 cc.1.2 cc.2 (by omega) (fun h2 f2 l2 => ?_))
  have ai := acceptA_inv hp.1 w.2.1.1.1 cc.1.1 cc.1.2 cc.2 (show 1 ≤ z ∧ z ≤ 64 by omega)
  have c2 := c1.line f2 l2
  exact packets_c (K := K + 1) ⟨hp, c2.1, ai, l2⟩ cc.1.1 cc.1.2 (k h2 (fun k hk => by rw [f2.cm k hk, f1 k hk]) ⟨cc, by omega⟩ c2)
