/-! lift, stop, undo -/
def liftP (π : PL) (σ : ST) (c k : Int) : Prop := (0 ≤ c ∧ c < π 0 0) ∧ (k = 0 ∨ k = 2) ∧ 0 < σ 11 (3 * c + k) 0
theorem liftQ_c {h : HP} {π : PL} {K c kk : Int} {s : SD} {im : IM} {t : TX} {P : Int → HP → Prop} (w : WA π K s im t) (ci : CI h π s im t) (hc : inR c) (hk : inR kk)
    (k : ∀ h', FrCm h h' → liftP π s.1 c kk → CI h' π (setS (keepS s) (dropA s.1 (3 * c + kk))) im t → P 1 h') (kx : ∀ h', FrCm h h' → ¬ liftP π s.1 c kk → CI h' π s im (refT t 1) → P 0 h') : wX11_lift 0 c kk h P := by
  have hp := w.1
  have x := ci.lx w
  have n12 := hp.1.2.1
  have no : ¬ liftP π s.1 c kk → wX11_refuse 0 1 h (fun x10 h9 => P 0 h9) := fun n => refuse_c ci (by decide) (fun h' f c' => kx h' f n c')
  unfold inR at hk
  unfold wX11_lift
  refine ⟨⟨hk, fun _ => hk⟩, fun t3 h3 => hasClass_c hp ci.1 hc (fun y hy hq => ⟨by omega, fun z => no (fun v => by have := hq.mpr v.1; omega), fun z => ?_⟩)⟩
  have cc := hq.mp (by omega)
  have e3 : (t3 = 0 ∨ t3 = 1) ∧ (t3 = 1 ↔ kk = 0 ∨ kk = 2) := by
    by_cases u : kk = 0
    · rw [h3.1 u]; omega
    · by_cases v : kk = 2
      · rw [(h3.2 u).2 v]; omega
      · rw [(h3.2 u).1 v]; omega
  refine ⟨by omega, fun u => no (fun v => by have := e3.2.mpr v.2.1; omega), fun u => ?_⟩
  have rk := e3.2.mp (by omega)
  refine hasCurve_c x cc.1 cc.2 (by omega) (fun y2 hy2 hq2 => ⟨by omega, fun z2 => ?_, fun z2 => no (fun v => by have := hq2.mpr v.2.2; omega)⟩)
  refine keepS_c hp ci (fun h1 f1 c1 => ?_)
  rw [show c * 3 + kk = 3 * c + kk by omega]
  refine drop_s (by omega) (fun h2 f2 o2 q2 _ _ => ?_)
  have ld := (c1.2.1.1.1).slot f2 o2 (q2 s.1 (c1.2.1.1.1.2.2.2.2 _ (by omega) (by omega))) (fun k hk => dropA_k hk) (fun k t ht _ => dropA_o ht)
  have n29 : h2 29 10 = h1 29 10 := f2 29 10 (fun z => by have := z.2; unfold cuK at this; omega)
  have hel6 : ∀ b, hel π (dropA s.1 (3 * c + kk)) b = hel π s.1 b := fun b => hel_same (dropA_k (by decide))
  refine k h2 (fun k hk => by rw [f2.frL.cm k hk, f1 k hk]) ⟨cc, rk, hq2.mp (by omega)⟩ (c1.line f2.frL ⟨ld, fun b hb => ?_⟩)
  rw [n29, hel6]; exact c1.2.1.1.2 b hb
theorem CurveR.drop {r : Int → Int} {c k : Int} {σ : ST} (e0 : r (257 * c + 4 * k) = 0) (e4 : r (257 * c + 38 + 73 * k) = 0) : CurveR r c k (dropA σ (3 * c + k)) := by
  have s1 : dropA σ (3 * c + k) 11 (3 * c + k) 0 = 0 := by unfold dropA; rw [upr_k (by decide), upr_k (by decide), up_eq]
  have s4 : dropA σ (3 * c + k) 12 (3 * c + k) = fun _ => 0 := by unfold dropA; rw [upr_k (by decide), upr_eq]
  have s5 : dropA σ (3 * c + k) 13 (3 * c + k) = fun _ => 0 := by unfold dropA; rw [upr_eq]
  unfold CurveR LaidR
  rw [s1, e0, e4, s4, s5]
  refine ⟨by rw [if_neg (by omega)], fun u => by omega, fun _ => rfl, by omega, fun i i0 i1 => by omega, fun i j i0 i1 i2 => by omega, fun n _ => ⟨Int.le_refl _, fun i i0 i1 => by omega, Or.inl rfl⟩, fun n _ => ⟨Int.le_refl _, fun i i0 i1 => by omega, Or.inl rfl⟩, fun _ i i0 i1 => by omega⟩
theorem liftQ_r {h : HP} {π : PL} {K c kk : Int} {s : SD} {im : IM} {t : TX} {P : Int → HP → Prop} (w : WA π K s im t) (ri : RI h π s im t) (hc : inR c) (hk : inR kk)
    (k : ∀ h', FrRf h h' → h' 12 7 1 = 0 → liftP π s.1 c kk → RI h' π (setS (keepS s) (dropA s.1 (3 * c + kk))) im t → P 1 h') (kx : ∀ h', FrRf h h' → h' 12 7 1 = 0 → ¬ liftP π s.1 c kk → RI h' π s im (refT t 1) → P 0 h') : wX12_lift 7 c kk h P := by
  have hp := w.1
  have n12 := hp.1.2.1
  unfold wX12_lift
  intro h1 e1
  have o1 : OkR h h1 0 := by rw [e1]; exact OkR.start ri.2.2.2.2 0
  have ri1 := o1.ri w ri
  have no : ¬ liftP π s.1 c kk → wX12_refuse 7 1 h1 (fun x6 h5 => P 0 h5) := fun n => refuse_r hp w.qln ri1 (by decide) (fun h' f r' => kx h' (fun k k1 k2 => by rw [f k (by omega), o1.1.rfr k k1 k2]) (by rw [f 12 (by decide)]; exact o1.2.2) n r')
  refine isClass_r hp ri1.1 hc (fun y hy hq => ⟨by omega, fun z => no (fun v => by have := hq.mpr v.1; omega), fun z => ?_⟩)
  have cc := hq.mp (by omega)
  have go : (kk = 0 ∨ kk = 2) → wX12_lift_22 7 c kk P h1 := by
    intro rk
    unfold wX12_lift_22
    refine hasCurve_r (ri1.rx w) cc.1 cc.2 (by omega) (fun y2 hy2 hq2 => ⟨by omega, fun z2 => ?_, fun z2 => no (fun v => by have := hq2.mpr v.2.2; omega)⟩)
    refine keepS_r hp w.2.1 ri1 (fun h2 f2 r2 => ?_)
    have loop : ∀ (Ko : HP → Prop), (∀ h', (∀ k, k ≠ 56 → h' k = h2 k) → (∀ j, ¬ (257 * c + 4 * kk ≤ j ∧ j ≤ 257 * c + 4 * kk + 3) → h' 56 7 j = h2 56 7 j) → h' 56 7 (257 * c + 4 * kk) = 0 → Ko h') →
        ∀ (d : Nat) (m : Int) (hh : HP), (4 - m).toNat = d → 0 ≤ m → m ≤ 4 → (∀ k, k ≠ 56 → hh k = h2 k) → (∀ j, ¬ (257 * c + 4 * kk ≤ j ∧ j ≤ 257 * c + 4 * kk + 3) → hh 56 7 j = h2 56 7 j) → (0 < m → hh 56 7 (257 * c + 4 * kk) = 0) → wX12_lift_45 7 c kk Ko (d + 1) m hh := by
      intro Ko hKo d
      induction d with
      | zero =>
        intro m hh hd m0 m1 g1 g2 g3
        rw [wX12_lift_45]
        exact ⟨by omega, fun _ => hKo hh g1 g2 (g3 (by omega)), fun u => absurd (by omega) u⟩
      | succ d ih =>
        intro m hh hd m0 m1 g1 g2 g3
        have hd1 : (4 - (m + 1)).toNat = d := by omega
        rw [wX12_lift_45]
        unfold wX12_curveAt
        dsimp only
        refine ⟨by omega, fun u => absurd u (by omega), fun _ => ⟨by omega, fun h19 e19 => ih (m + 1) h19 hd1 (by omega) (by omega) (fun k hk => by rw [e19, up_k hk]; exact g1 k hk) (fun j hj => by rw [e19, up_j (by omega)]; exact g2 j hj) (fun _ => ?_)⟩⟩
        by_cases u : m = 0
        · rw [e19, u, Int.add_zero, up_eq]
        · rw [e19, up_j (by omega)]; exact g3 (by omega)
    refine ⟨_, loop _ (fun h3 g1 g2 g3 => ?_) 4 0 h2 rfl (by omega) (by omega) (fun _ _ => rfl) (fun _ _ => rfl) (fun u => by omega)⟩
    unfold wX12_laidAt
    dsimp only
    refine ⟨by omega, fun h25 e25 => ?_⟩
    have k25 : ∀ k, k ≠ 56 → h25 k = h2 k := fun k hk => by rw [e25, up_k hk]; exact g1 k hk
    have fu : FrU h2 h25 := ⟨fun k _ k2 _ _ _ => k25 k k2, fun j _ _ _ => by rw [k25 12 (by decide)]⟩
    have row : RowR (h25 56 7) π (dropA s.1 (3 * c + kk)) := by
      refine (r2.2.1.1).slot hp.1 (fun b b0 b1 => w.2.1.1.1.qln b b0 b1) cc.1 cc.2 (k := kk) (by omega) (fun j j1 j2 => ?_) (CurveR.drop ?_ ?_) (fun k' h => dropA_k h) (fun k' t h => dropA_o h)
      · rw [e25, up_j (by omega)]; exact g2 j j2
      · rw [e25, up_j (by omega)]; exact g3
      · rw [e25, up_eq]
    refine k h25 (fun k k1 k2 => ?_) ?_ ⟨cc, rk, hq2.mp (by omega)⟩ (r2.row fu row (r2.2.2.2.2.f12 (k25 12 (by decide))))
    · rw [k25 k (by omega), f2.1 k k1 (by omega), o1.1.rfr k k1 k2]
    · rw [k25 12 (by decide), f2.2 1 (by decide)]; exact o1.2.2
  exact ⟨hk, fun u => go (Or.inl u), fun u => ⟨hk, fun v => no (fun v' => by have := v'.2.1; omega), fun v => go (Or.inr v)⟩⟩
theorem stopQ_c {h : HP} {π : PL} {K f : Int} {s : SD} {im : IM} {t : TX} {P : Int → HP → Prop} (w : WA π K s im t) (ci : CI h π s im t) (hf : inR f)
    (k : ∀ h', FrCm h h' → (0 ≤ f ∧ f < π 0 1) → CI h' π (setS (keepS s) (togA s.1 f)) im t → P (togA s.1 f 0 5 0) h') (kx : ∀ h', FrCm h h' → ¬ (0 ≤ f ∧ f < π 0 1) → CI h' π s im (refT t 1) → P (-1) h') : wX11_stop 0 f h P := by
  have hp := w.1
  unfold wX11_stop
  refine hasFlow_c hp ci.1 hf (fun y hy hq => ⟨by omega, fun z => ?_, fun z => refuse_c ci (by decide) (fun h' g c' => kx h' g (fun v => by have := hq.mpr v; omega) c')⟩)
  refine keepS_c hp ci (fun h1 f1 c1 => ?_)
  have x1 : LX h1 10 π K s.1 := ⟨hp, c1.1, w.2.1.1.1, c1.2.1.1⟩
  refine tog_c x1 (fun h2 f2 l2 => ?_)
  rw [l2.1.1.2.2.2.2.2]
  exact k h2 (fun k hk => by rw [f2.cm k hk, f1 k hk]) (hq.mp (by omega)) (c1.line f2 l2)
theorem stopQ_r {h : HP} {π : PL} {K f : Int} {s : SD} {im : IM} {t : TX} {P : Int → HP → Prop} (w : WA π K s im t) (ri : RI h π s im t) (hf : inR f)
    (k : ∀ h', FrRf h h' → h' 12 7 1 = 0 → (0 ≤ f ∧ f < π 0 1) → RI h' π (setS (keepS s) (togA s.1 f)) im t → P (togA s.1 f 0 5 0) h') (kx : ∀ h', FrRf h h' → h' 12 7 1 = 0 → ¬ (0 ≤ f ∧ f < π 0 1) → RI h' π s im (refT t 1) → P (-1) h') : wX12_stop 7 f h P := by
  have hp := w.1
  have n8 := hp.2.1
  unfold wX12_stop
  intro h1 e1
  have o1 : OkR h h1 0 := by rw [e1]; exact OkR.start ri.2.2.2.2 0
  have ri1 := o1.ri w ri
  rw [ri1.1.1.2]
  refine isIn_r hf (by omega) (by omega) (fun y hy hq => ⟨by omega, fun z => ?_, fun z => refuse_r hp w.qln ri1 (by decide) (fun h' g r' => kx h' (fun k k1 k2 => by rw [g k (by omega), o1.1.rfr k k1 k2]) (by rw [g 12 (by decide)]; exact o1.2.2) (fun v => by have := hq.mpr (by omega); omega) r')⟩)
  have ff := hq.mp (by omega)
  refine keepS_r hp w.2.1 ri1 (fun h2 f2 r2 h7 e7 => ?_)
  have e90 : h2 56 7 3090 = s.1 0 5 0 := r2.2.1.1.1.2.2.2.2.2.2
  have k7 : ∀ k, k ≠ 56 → h7 k = h2 k := fun k hk => by rw [e7, up_k hk]
  have fu : FrU h2 h7 := ⟨fun k _ k2 _ _ _ => k7 k k2, fun j _ _ _ => by rw [k7 12 (by decide)]⟩
  have row : RowR (h7 56 7) π (togA s.1 f) := by
    unfold togA
    exact (r2.2.1.1).num hp.1 (fun b b0 b1 => w.2.1.1.1.qln b b0 b1) (i := 5) (by omega) (by omega) (fun j => by rw [e7, up_ji, e90]; rfl)
  rw [show h7 56 7 3090 = togA s.1 f 0 5 0 from row.1.2.2.2.2.2.2]
  refine k h7 (fun k k1 k2 => ?_) ?_ (by omega) (r2.row fu row (r2.2.2.2.2.f12 (k7 12 (by decide))))
  · rw [k7 k (by omega), f2.1 k k1 (by omega), o1.1.rfr k k1 k2]
  · rw [k7 12 (by decide), f2.2 1 (by decide)]; exact o1.2.2
def undoS (s : SD) : SD := (s.2.2.1 (s.2.1 - 1), s.2.1 - 1, s.2.2.1, s.2.2.2.1, s.2.2.2.2)
theorem undoQ_c {h : HP} {π : PL} {K : Int} {s : SD} {im : IM} {t : TX} {P : Int → HP → Prop} (w : WA π K s im t) (ci : CI h π s im t)
    (k : ∀ h', FrCm h h' → s.2.1 ≠ 0 → CI h' π (undoS s) im t → P (s.2.1 - 1) h') (kx : s.2.1 = 0 → P (-1) h) : wX11_undo 0 h P := by
  have hp := w.1
  have n40 := w.2.1.2.1
  have h3 : hb 3 = 20 := rfl
  have h4 : hb 4 = 60 := rfl
  obtain ⟨q1, ⟨q2, q3, q4⟩, ⟨i1, i2⟩, t1, t2, t3, t4⟩ := ci
  unfold wX11_undo wX5_size
  rw [q3.1]
  refine ⟨by omega, fun z => takeBack_c hp q1 (by omega) q3 (by omega) (fun h' f hh l => ?_), kx⟩
  rw [hh.1]
  refine k h' (fun k hk => ?_) z ⟨q1.congr (fun k hk => f k 1 (by omega) (by omega)), ⟨l, hh, q4.congr (fun k hk => f k 5 (by unfold ntK at hk; omega) (by omega))⟩, ⟨by rw [f 11 0 (by omega) (by omega)]; exact i1, fun y => ?_⟩, by rw [f 11 0 (by omega) (by omega)]; exact t1, by rw [f 45 0 (by omega) (by omega)]; exact t2, by rw [f 11 0 (by omega) (by omega)]; exact t3, by rw [f 46 0 (by omega) (by omega)]; exact t4⟩
  · funext i
    exact f k i (by omega) (by unfold lnK; omega)
  · obtain ⟨⟨j1, j2, j3⟩, j4⟩ := i2 y
    exact ⟨⟨j1.congr (fun k hk => f k 11 (by unfold lnK at hk; omega) (by omega)), j2.fr (f 5 4 (by omega) (by omega)) (fun k i hk i0 i1 => f k i (by unfold lnK at hk; omega) (by omega)), j3.congr (fun k hk => f k 6 (by unfold ntK at hk; omega) (by omega))⟩, by rw [f 47 0 (by omega) (by omega)]; exact j4⟩
theorem undoQ_r {h : HP} {π : PL} {K : Int} {s : SD} {im : IM} {t : TX} {P : Int → HP → Prop} (w : WA π K s im t) (ri : RI h π s im t)
    (k : ∀ h', FrRf h h' → h' 12 7 1 = 0 → s.2.1 ≠ 0 → RI h' π (undoS s) im t → P (s.2.1 - 1) h') (kx : ∀ h', FrRf h h' → h' 12 7 1 = 0 → RI h' π s im t → s.2.1 = 0 → P (-1) h') : wX12_undo 7 h P := by
  have hp := w.1
  have n40 := w.2.1.2.1
  unfold wX12_undo
  intro h1 e1
  have o1 : OkR h h1 0 := by rw [e1]; exact OkR.start ri.2.2.2.2 0
  have ri1 := o1.ri w ri
  obtain ⟨q1, ⟨s1, ⟨p1, p2, p3⟩, s3, s4⟩, ⟨i1, i2⟩, ⟨t1, t2, t3, t4⟩, id⟩ := id ri1
  rw [p1]
  refine ⟨by omega, fun z h4 e4 => ?_, fun z => kx h1 o1.1.rfr o1.2.2 ri1 z⟩
  have j4 : ∀ j, j ≠ 35 → h4 12 7 j = h1 12 7 j := fun j hj => by rw [e4, up_j hj]
  have k4 : ∀ k, k ≠ 12 → h4 k = h1 k := fun k hk => by rw [e4, up_k hk]
  have e35 : h4 12 7 35 = s.2.1 - 1 := by rw [e4, up_eq]
  have loop : ∀ (d : Nat) (m : Int) (hh : HP), (3099 - m).toNat = d → 0 ≤ m → m ≤ 3099 → (∀ k, k ≠ 56 → hh k = h4 k) → (∀ j, 0 ≤ j → j < m → hh 56 7 j = h1 62 7 (3099 * (s.2.1 - 1) + j)) → wX12_undo_26 7 (fun h11 => P (h11 12 7 35) h11) (d + 1) m hh := by
    intro d
    induction d with
    | zero =>
      intro m hh hd m0 m1 g1 g2
      have em : m = 3099 := by omega
      subst em
      rw [wX12_undo_26]
      refine ⟨by omega, fun _ => ?_, fun u => absurd (Int.le_refl _) u⟩
      have K1 : ∀ k, k ≠ 12 → k ≠ 56 → hh k = h1 k := fun k k1 k2 => by rw [g1 k k2, k4 k k1]
      have J1 : ∀ j, j ≠ 35 → hh 12 7 j = h1 12 7 j := fun j hj => by rw [g1 12 (by decide)]; exact j4 j hj
      have e35' : hh 12 7 35 = s.2.1 - 1 := by rw [g1 12 (by decide)]; exact e35
      have row : RowR (hh 56 7) π (s.2.2.1 (s.2.1 - 1)) := (p3 (s.2.1 - 1) (by omega) (by omega)).ext hp (fun b b0 b1 => (w.2.1.2.2.1 (s.2.1 - 1) (by omega) (by omega)).1.qln b b0 b1) (fun j j0 j1 => g2 j j0 j1)
      rw [e35']
      refine k hh (fun k k1 k2 => ?_) (by rw [J1 1 (by decide)]; exact o1.2.2) z ⟨q1.congr (fun k k1 k2 => K1 k (by omega) (by omega)), ⟨row, ⟨e35', ?_, ?_⟩, by rw [J1 38 (by decide)]; exact s3, ?_⟩, ⟨by rw [J1 50 (by decide)]; exact i1, fun y => ?_⟩, ⟨by rw [J1 12 (by decide)]; exact t1, by rw [K1 58 (by decide) (by decide)]; exact t2, by rw [J1 21 (by decide)]; exact t3, by rw [K1 57 (by decide) (by decide)]; exact t4⟩, ?_⟩
      · rw [K1 k k1 (by omega), o1.1.rfr k k1 k2]
      · show 0 ≤ s.2.1 - 1 ∧ s.2.1 - 1 ≤ 40; omega
      · intro i i0 i1'
        have i2' : i < s.2.1 - 1 := i1'
        rw [K1 62 (by decide) (by decide)]; exact p3 i i0 (by omega)
      · unfold NoteR at *; rw [K1 64 (by decide) (by decide), K1 65 (by decide) (by decide), K1 66 (by decide) (by decide)]; exact s4
      · have := i2 y
        unfold SideI NoteR at *
        rw [K1 71 (by decide) (by decide), J1 51 (by decide), K1 72 (by decide) (by decide), J1 52 (by decide), K1 73 (by decide) (by decide), K1 74 (by decide) (by decide), K1 75 (by decide) (by decide), K1 76 (by decide) (by decide)]
        exact this
      · unfold IdleR at *
        rw [J1 29 (by decide), J1 32 (by decide), J1 31 (by decide), J1 33 (by decide)]; exact id
    | succ d ih =>
      intro m hh hd m0 m1 g1 g2
      have hd1 : (3099 - (m + 1)).toNat = d := by omega
      rw [wX12_undo_26, g1 12 (by decide), e35]
      refine ⟨by omega, fun u => absurd u (by omega), fun _ => ⟨by omega, by omega, fun h8 e8 => ih (m + 1) h8 hd1 (by omega) (by omega) (fun k hk => by rw [e8, up_k hk]; exact g1 k hk) (fun j j0 j1 => ?_)⟩⟩
      rw [e8, up_ji, g1 62 (by decide), k4 62 (by decide)]
      by_cases u : j = m
      · rw [if_pos u, u]
      · rw [if_neg u]; exact g2 j j0 (by omega)
  exact ⟨_, loop 3099 0 h4 rfl (by omega) (by omega) (fun _ _ => rfl) (fun j j0 j1 => by omega)⟩
