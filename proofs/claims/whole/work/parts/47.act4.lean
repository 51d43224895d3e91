/-! note, forget, image, restore, fault -/
def noteP (π : PL) (s : SD) (c u b : Int) : Prop := (0 ≤ c ∧ c < π 0 0) ∧ (0 ≤ u ∧ u ≤ 100) ∧ (0 ≤ b ∧ b ≤ 9999) ∧ s.2.2.2.1 < 8
def noteS (s : SD) (c u b : Int) : SD := (s.1, s.2.1, s.2.2.1, s.2.2.2.1 + 1, addN s.2.2.2.1 s.2.2.2.2 c u b)
def forgetS (s : SD) : SD := (s.1, s.2.1, s.2.2.1, 0, s.2.2.2.2)
theorem CI.notes {h h' : HP} {π : PL} {s : SD} {im : IM} {t : TX} {m : Int} {nt : PL} (q : CI h π s im t) (f : FrN 5 h h') (n : NotesC h' 5 m nt) : CI h' π (s.1, s.2.1, s.2.2.1, m, nt) im t := by
  obtain ⟨q1, ⟨q2, q3, q4⟩, ⟨i1, i2⟩, t1, t2, t3, t4⟩ := q
  have g : ∀ k i, ¬ (ntK k ∧ i = 5) → h' k i = h k i := f
  refine ⟨q1.congr (fun k hk => g k 1 (by omega)), ⟨q2.congr (fun k hk => g k 10 (by omega)), q3.fr (g 5 3 (by omega)) (fun k i hk i0 i1 => g k i (by unfold lnK at hk; unfold ntK; omega)), n⟩, ⟨by rw [g 11 0 (by omega)]; exact i1, fun z => ?_⟩, by rw [g 11 0 (by omega)]; exact t1, by rw [g 45 0 (by omega)]; exact t2, by rw [g 11 0 (by omega)]; exact t3, by rw [g 46 0 (by omega)]; exact t4⟩
  obtain ⟨⟨j1, j2, j3⟩, j4⟩ := i2 z
  exact ⟨⟨j1.congr (fun k hk => g k 11 (by omega)), j2.fr (g 5 4 (by omega)) (fun k i hk i0 i1 => g k i (by unfold lnK at hk; unfold ntK; omega)), j3.congr (fun k hk => g k 6 (by omega))⟩, by rw [g 47 0 (by omega)]; exact j4⟩
theorem FrN.cm {N : Int} {h h' : HP} (f : FrN N h h') : FrCm h h' := fun k hk => by
  funext i
  exact f k i (by unfold ntK; omega)
theorem noteQ_c {h : HP} {π : PL} {K c u b : Int} {s : SD} {im : IM} {t : TX} {P : Int → HP → Prop} (w : WA π K s im t) (ci : CI h π s im t) (hc : inR c) (hu : inR u) (hb : inR b)
    (k : ∀ h', FrCm h h' → noteP π s c u b → CI h' π (noteS s c u b) im t → P (s.2.2.2.1 + 1) h') (kx : ∀ h', FrCm h h' → ¬ noteP π s c u b → CI h' π s im (refT t 2) → P (-1) h') : wX11_note 0 c u b h P := by
  have hp := w.1
  have m8 := w.2.1.2.2.2.1
  have n5 := ci.2.1.2.2
  have no : ¬ noteP π s c u b → wX11_refuse 0 2 h (fun x6 h5 => P x6 h5) := fun n => refuse_c ci (by decide) (fun h' f c' => kx h' f n c')
  unfold inR at hu hb
  unfold wX11_note
  refine hasClass_c hp ci.1 hc (fun y hy hq => ⟨⟨by omega, fun _ => ⟨hu, fun _ => ⟨hu, fun _ => ⟨hb, fun _ => hb⟩⟩⟩⟩, fun t8 h8 => ?_⟩)
  have e8 : (t8 = 0 ∨ t8 = 1) ∧ (t8 = 1 ↔ (0 ≤ c ∧ c < π 0 0) ∧ (0 ≤ u ∧ u ≤ 100) ∧ 0 ≤ b ∧ b ≤ 9999) := by
    by_cases z : y = 0
    · rw [h8.1 z]; exact ⟨Or.inl rfl, fun v => by omega, fun v => by have := hq.mpr v.1; omega⟩
    · have cc := hq.mp (by omega)
      have g1 := h8.2 z
      by_cases z1 : u < 0
      · rw [g1.1 z1]; exact ⟨Or.inl rfl, fun v => by omega, fun v => by omega⟩
      · have g2 := g1.2 z1
        by_cases z2 : 100 < u
        · rw [g2.1 z2]; exact ⟨Or.inl rfl, fun v => by omega, fun v => by omega⟩
        · have g3 := g2.2 z2
          by_cases z3 : b < 0
          · rw [g3.1 z3]; exact ⟨Or.inl rfl, fun v => by omega, fun v => by omega⟩
          · have g4 := g3.2 z3
            by_cases z4 : 9999 < b
            · rw [g4.1 z4]; exact ⟨Or.inl rfl, fun v => by omega, fun v => by omega⟩
            · rw [g4.2 z4]; exact ⟨Or.inr rfl, fun _ => ⟨cc, by omega, by omega⟩, fun _ => rfl⟩
  rw [n5.1]
  refine ⟨by omega, fun z => no (fun v => by have := e8.2.mpr ⟨v.1, v.2.1, v.2.2.1⟩; omega), fun z => ⟨by omega, fun z2 => ?_, fun z2 => no (fun v => z2 v.2.2.2)⟩⟩
  have r := e8.2.mp (by omega)
  refine noteAdd_c n5 w.2.1.2.2.2.2 z2 r.2.1 (fun h' f n' => ?_)
  rw [n'.1]
  exact k h' f.cm ⟨r.1, r.2.1, r.2.2, z2⟩ (ci.notes f n')
theorem RI.notes {h h' : HP} {π : PL} {s : SD} {im : IM} {t : TX} {m : Int} {nt : PL} (q : RI h π s im t) (f : ∀ k, k ≠ 12 → k ≠ 64 → k ≠ 65 → k ≠ 66 → h' k = h k) (j : ∀ j, j ≠ 38 → h' 12 7 j = h 12 7 j) (em : h' 12 7 38 = m) (n : NoteR h' 64 m nt) : RI h' π (s.1, s.2.1, s.2.2.1, m, nt) im t := by
  obtain ⟨q1, ⟨s1, ⟨p1, p2, p3⟩, s3, s4⟩, ⟨i1, i2⟩, ⟨t1, t2, t3, t4⟩, id⟩ := q
  have g : ∀ k, (k ≠ 12 ∧ k ≠ 64 ∧ k ≠ 65 ∧ k ≠ 66) → h' k = h k := fun k hk => f k hk.1 hk.2.1 hk.2.2.1 hk.2.2.2
  refine ⟨q1.congr (fun k k1 k2 => g k (by omega)), ⟨by rw [g 56 (by decide)]; exact s1, ⟨by rw [j 35 (by decide)]; exact p1, p2, by rw [g 62 (by decide)]; exact p3⟩, em, n⟩, ⟨by rw [j 50 (by decide)]; exact i1, fun z => ?_⟩, ⟨by rw [j 12 (by decide)]; exact t1, by rw [g 58 (by decide)]; exact t2, by rw [j 21 (by decide)]; exact t3, by rw [g 57 (by decide)]; exact t4⟩, ?_⟩
  · have := i2 z
    unfold SideI NoteR at *
    rw [g 71 (by decide), j 51 (by decide), g 72 (by decide), j 52 (by decide), g 73 (by decide), g 74 (by decide), g 75 (by decide), g 76 (by decide)]
    exact this
  · unfold IdleR at *
    rw [j 29 (by decide), j 32 (by decide), j 31 (by decide), j 33 (by decide)]; exact id
theorem noteQ_r {h : HP} {π : PL} {K c u b : Int} {s : SD} {im : IM} {t : TX} {P : Int → HP → Prop} (w : WA π K s im t) (ri : RI h π s im t) (hc : inR c) (hu : inR u) (hb : inR b)
    (k : ∀ h', FrRf h h' → h' 12 7 1 = 0 → noteP π s c u b → RI h' π (noteS s c u b) im t → P (s.2.2.2.1 + 1) h') (kx : ∀ h', FrRf h h' → h' 12 7 1 = 0 → ¬ noteP π s c u b → RI h' π s im (refT t 2) → P (-1) h') : wX12_note 7 c u b h P := by
  have hp := w.1
  have m8 := w.2.1.2.2.2.1
  unfold wX12_note
  intro h1 e1
  have o1 : OkR h h1 0 := by rw [e1]; exact OkR.start ri.2.2.2.2 0
  have ri1 := o1.ri w ri
  have e38 : h1 12 7 38 = s.2.2.2.1 := ri1.2.1.2.2.1
  have no : ¬ noteP π s c u b → wX12_refuse 7 2 h1 (fun x6 h5 => P x6 h5) := fun n => refuse_r hp w.qln ri1 (by decide) (fun h' f r' => kx h' (fun k k1 k2 => by rw [f k (by omega), o1.1.rfr k k1 k2]) (by rw [f 12 (by decide)]; exact o1.2.2) n r')
  rw [e38]
  refine ⟨by omega, fun z => no (fun v => by have := v.2.2.2; omega), fun z => isClass_r hp ri1.1 hc (fun y hy hq => ⟨by omega, fun z1 => no (fun v => by have := hq.mpr v.1; omega), fun z1 => ?_⟩)⟩
  refine isIn_r hu (by omega) (by omega) (fun y2 hy2 hq2 => ⟨by omega, fun z2 => no (fun v => by have := hq2.mpr v.2.1; omega), fun z2 => ?_⟩)
  refine isIn_r hb (by omega) (by omega) (fun y3 hy3 hq3 => ⟨by omega, fun z3 => ?_, fun z3 => no (fun v => by have := hq3.mpr v.2.2.1; omega)⟩)
  have np : noteP π s c u b := ⟨hq.mp (by omega), hq2.mp (by omega), hq3.mp (by omega), by omega⟩
  rw [e38]
  refine ⟨by omega, fun h22 e22 => ?_⟩
  have k22 : h22 12 7 38 = s.2.2.2.1 := by rw [e22, up_k (by decide)]; exact e38
  rw [k22]
  refine ⟨by omega, fun h24 e24 => ?_⟩
  have k24 : h24 12 7 38 = s.2.2.2.1 := by rw [e24, up_k (by decide)]; exact k22
  rw [k24]
  refine ⟨by omega, fun h26 e26 h28 e28 => ?_⟩
  have k26 : h26 12 7 38 = s.2.2.2.1 := by rw [e26, up_k (by decide)]; exact k24
  have e28' : h28 12 7 38 = s.2.2.2.1 + 1 := by rw [e28, up_eq, k26]
  have kk : ∀ k, k ≠ 12 → k ≠ 64 → k ≠ 65 → k ≠ 66 → h28 k = h1 k := fun k k1 k2 k3 k4 => by rw [e28, up_k k1, e26, up_k k4, e24, up_k k3, e22, up_k k2]
  have jj : ∀ j, j ≠ 38 → h28 12 7 j = h1 12 7 j := fun j hj => by rw [e28, up_j hj, e26, up_k (by decide), e24, up_k (by decide), e22, up_k (by decide)]
  rw [e28']
  refine k h28 (fun k k1 k2 => by rw [kk k k1 (by omega) (by omega) (by omega), o1.1.rfr k k1 k2]) (by rw [jj 1 (by decide)]; exact o1.2.2) np (ri1.notes kk jj e28' (fun j j0 j1 => ?_))
  have old := ri1.2.1.2.2.2
  unfold NoteR at old
  have v64 : h28 64 7 j = if j = s.2.2.2.1 then c else h1 64 7 j := by rw [e28, up_k (by decide), e26, up_k (by decide), e24, up_k (by decide), e22, up_ji]
  have v65 : h28 65 7 j = if j = s.2.2.2.1 then u else h1 65 7 j := by rw [e28, up_k (by decide), e26, up_k (by decide), e24, up_ji, e22, up_k (by decide)]
  have v66 : h28 66 7 j = if j = s.2.2.2.1 then b else h1 66 7 j := by rw [e28, up_k (by decide), e26, up_ji, e24, up_k (by decide), e22, up_k (by decide)]
  show h28 64 7 j = _ ∧ h28 65 7 j = _ ∧ h28 66 7 j = _
  rw [v64, v65, v66]
  unfold addN
  by_cases y4 : j = s.2.2.2.1
  · rw [if_pos y4, if_pos y4, if_pos y4, if_pos y4, if_pos y4, if_pos y4]; exact ⟨rfl, rfl, rfl⟩
  · rw [if_neg y4, if_neg y4, if_neg y4, if_neg y4, if_neg y4, if_neg y4]; exact old j j0 (by omega)
theorem SA.note {π : PL} {K c u b : Int} {s : SD} (a : SA π K s) (n : noteP π s c u b) : SA π K (noteS s c u b) := by
  obtain ⟨n1, n2, n3, n4⟩ := n
  refine ⟨a.1, a.2.1, a.2.2.1, ?_, fun j j0 j1 => ?_⟩
  · have := a.2.2.2.1
    show 0 ≤ s.2.2.2.1 + 1 ∧ s.2.2.2.1 + 1 ≤ 8; omega
  · have j1' : j < s.2.2.2.1 + 1 := j1
    have e : ∀ k, addN s.2.2.2.1 s.2.2.2.2 c u b k j = if j = s.2.2.2.1 then (if k = 0 then c else if k = 1 then u else b) else s.2.2.2.2 k j := fun _ => rfl
    show (0 ≤ addN s.2.2.2.1 s.2.2.2.2 c u b 0 j ∧ addN s.2.2.2.1 s.2.2.2.2 c u b 0 j < π 0 0) ∧ (0 ≤ addN s.2.2.2.1 s.2.2.2.2 c u b 1 j ∧ addN s.2.2.2.1 s.2.2.2.2 c u b 1 j ≤ 100) ∧ (0 ≤ addN s.2.2.2.1 s.2.2.2.2 c u b 2 j ∧ addN s.2.2.2.1 s.2.2.2.2 c u b 2 j ≤ 9999)
    rw [e, e, e]
    by_cases z : j = s.2.2.2.1
    · rw [if_pos z, if_pos z, if_pos z]; exact ⟨n1, n2, n3⟩
    · rw [if_neg z, if_neg z, if_neg z]; exact a.2.2.2.2 j j0 (by omega)
theorem forgetQ_c {h : HP} {π : PL} {s : SD} {im : IM} {t : TX} {P : HP → Prop} (ci : CI h π s im t) (k : ∀ h', FrCm h h' → CI h' π (forgetS s) im t → P h') : wX11_forget 0 h P := by
  unfold wX11_forget wX7_clear
  intro h1 e1
  have f : FrN 5 h h1 := by rw [e1]; exact FrN.upr (by unfold ntK; omega)
  refine k h1 f.cm (ci.notes f ⟨by rw [e1, up_eq], by omega, fun i i0 i1 => by omega, fun j j0 j1 => by omega, fun i j i0 i1 i2 => by omega⟩)
theorem forgetQ_r {h : HP} {π : PL} {K : Int} {s : SD} {im : IM} {t : TX} {P : HP → Prop} (w : WA π K s im t) (ri : RI h π s im t) (k : ∀ h', FrRf h h' → h' 12 7 1 = 0 → RI h' π (forgetS s) im t → P h') : wX12_forget 7 h P := by
  unfold wX12_forget
  intro h1 e1 h2 e2
  have o1 : OkR h h1 0 := by rw [e1]; exact OkR.start ri.2.2.2.2 0
  have ri1 := o1.ri w ri
  refine k h2 (fun k k1 k2 => by rw [e2, up_k k1, o1.1.rfr k k1 k2]) (by rw [e2, up_j (by decide)]; exact o1.2.2) (ri1.notes (fun k k1 _ _ _ => by rw [e2, up_k k1]) (fun j hj => by rw [e2, up_j hj]) (by rw [e2, up_eq]) (fun j j0 j1 => by omega))
theorem fault_c {h : HP} {π : PL} {s : SD} {im : IM} {t : TX} {P : Int → HP → Prop} (ci : CI h π s im t) (k : P t.2.2.1 h) : wX11_fault 0 h P := by
  unfold wX11_fault
  rw [ci.2.2.2.2.2.1]; exact k
theorem fault_r {h : HP} {π : PL} {K : Int} {s : SD} {im : IM} {t : TX} {P : Int → HP → Prop} (w : WA π K s im t) (ri : RI h π s im t) (k : ∀ h', FrRf h h' → h' 12 7 1 = 0 → RI h' π s im t → P t.2.2.1 h') : wX12_fault 7 h P := by
  unfold wX12_fault
  intro h1 e1
  have o1 : OkR h h1 0 := by rw [e1]; exact OkR.start ri.2.2.2.2 0
  have ri1 := o1.ri w ri
  rw [ri1.2.2.2.1.2.2.1]
  exact k h1 o1.1.rfr o1.2.2 ri1
/-! image, restore -/
def imgOf (s : SD) (t : TX) : IM := (1, s, t.2.2.2)
theorem image_c {h : HP} {π : PL} {K : Int} {s : SD} {im : IM} {t : TX} {P : HP → Prop} (w : WA π K s im t) (ci : CI h π s im t) (k : ∀ h', FrCm h h' → CI h' π s (imgOf s t) t → P h') : wX11_image 0 h P := by
  have hp := w.1
  have h3 : hb 3 = 20 := rfl
  have h4 : hb 4 = 60 := rfl
  obtain ⟨q1, ⟨q2, q3, q4⟩, ⟨i1, i2⟩, t1, t2, t3, t4⟩ := ci
  unfold wX11_image
  refine copyL_c (by decide) hp q1 q2 (fun ha fa la => ?_)
  have q1a := q1.fr fa
  have q3a := q3.frL fa (by omega)
  refine histCopy_c (Or.inr ⟨rfl, rfl⟩) hp q1a q3a (fun hb' fb hhb => ?_)
  have q4b : NotesC hb' 5 s.2.2.2.1 s.2.2.2.2 := (q4.congr (fun k hk => fa k 5 (by omega))).congr (fun k hk => fb k 5 (by unfold ntK at hk; omega) (by omega))
  refine noteCopy_c (by decide) q4b (fun hc fc nc => ⟨⟨by omega, by omega, by omega, by omega, by omega⟩, fun hd ed he ee => ?_⟩)
  -- all in all
  have E : ∀ k i, k ≠ 47 → ¬ (k = 11 ∧ i = 0) → ¬ (ntK k ∧ i = 6) → ¬ (k = 5 ∧ i = 4) → ¬ (lnK k ∧ 60 ≤ i ∧ i < 100) → ¬ (i = 11 ∧ lnK k) → he k i = h k i := by
    intro k i a1 a2 a3 a4 a5 a6
    have x1 : he k i = hd k i := by
      rw [ee]
      by_cases z : k = 11
      · subst z; exact up_i (fun y => a2 ⟨rfl, y⟩)
      · exact congrFun (up_k z) i
    rw [x1, ed, upr_k a1, fc k i a3, fb k i a4 (fun z => a5 ⟨z.1, by omega, by omega⟩), fa k i a6]
  have L11 : ∀ k, lnK k → he k 11 = ha k 11 := by
    intro k hk
    have x1 : he k 11 = hd k 11 := by rw [ee]; exact congrFun (up_k (by unfold lnK at hk; omega)) 11
    rw [x1, ed, upr_k (by unfold lnK at hk; omega), fc k 11 (by omega), fb k 11 (by omega) (by omega)]
  have x11 : ∀ j, j ≠ 10 → he 11 0 j = h 11 0 j := by
    intro j hj
    rw [ee, up_j hj, ed, upr_k (by decide), fc 11 0 (by omega), fb 11 0 (by omega) (by unfold lnK; omega), fa 11 0 (by omega)]
  have x46 : hc 46 0 = h 46 0 := by rw [fc 46 0 (by unfold ntK; omega), fb 46 0 (by omega) (by unfold lnK; omega), fa 46 0 (by unfold lnK; omega)]
  have x47 : ∀ i, 0 ≤ i → i < 3 → he 47 0 i = t.2.2.2 i := by
    intro i i0 i1
    rw [ee, up_k (by decide), ed, upr_eq]
    show (if 0 ≤ i ∧ i < 0 + 3 then hc 46 0 (0 + (i - 0)) else hc 47 0 i) = _
    rw [if_pos (by omega), show (0 : Int) + (i - 0) = i by omega, x46]
    exact t4 i i0 i1
  refine k he (fun k hk => ?_) ⟨q1.congr (fun k hk => E k 1 (by omega) (by omega) (by omega) (by omega) (by omega) (by omega)), ⟨q2.congr (fun k hk => E k 10 (by unfold lnK at hk; omega) (by omega) (by omega) (by omega) (by omega) (by omega)), q3.fr (E 5 3 (by omega) (by omega) (by omega) (by omega) (by omega) (by omega)) (fun k i hk i0 i1 => E k i (by unfold lnK at hk; omega) (by omega) (by omega) (by omega) (by omega) (by omega)), q4.congr (fun k hk => E k 5 (by unfold ntK at hk; omega) (by omega) (by omega) (by omega) (by omega) (by omega))⟩, ⟨by rw [ee, up_eq]; rfl, fun _ => ⟨⟨la.congr L11, hhb.fr ?_ (fun k i hk i0 i1 => ?_), nc.congr (fun k hk => ?_)⟩, x47⟩⟩, ?_, ?_, ?_, ?_⟩
  · funext i
    refine E k i (by omega) (by omega) ?_ (by omega) ?_ ?_
    · unfold ntK; omega
    · unfold lnK; omega
    · unfold lnK; omega
  · rw [ee, up_k (by decide), ed, upr_k (by decide), fc 5 4 (by omega)]
  · rw [ee, up_k (by unfold lnK at hk; omega), ed, upr_k (by unfold lnK at hk; omega), fc k i (by unfold lnK at hk; unfold ntK; omega)]
  · rw [ee, up_k (by unfold ntK at hk; omega), ed, upr_k (by unfold ntK at hk; omega)]
  · rw [x11 1 (by decide)]; exact t1
  · rw [E 45 0 (by omega) (by omega) (by omega) (by omega) (by unfold lnK; omega) (by omega)]; exact t2
  · rw [x11 2 (by decide)]; exact t3
  · rw [E 46 0 (by omega) (by omega) (by omega) (by omega) (by unfold lnK; omega) (by omega)]; exact t4
