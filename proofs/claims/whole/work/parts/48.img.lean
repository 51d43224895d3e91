/-! restore; image and restore of the reference -/
def resT (t : TX) (im : IM) : TX := (t.1, t.2.1, t.2.2.1, im.2.2)
theorem restore_c {h : HP} {π : PL} {K : Int} {s : SD} {im : IM} {t : TX} {P : Int → HP → Prop} (w : WA π K s im t) (ci : CI h π s im t) (k : ∀ h', FrCm h h' → im.1 = 1 → CI h' π im.2.1 im (resT t im) → P 1 h') (kx : im.1 = 0 → P 0 h) : wX11_restore 0 h P := by
  have hp := w.1
  have h3 : hb 3 = 20 := rfl
  have h4 : hb 4 = 60 := rfl
  have i01 := w.2.2.1
  obtain ⟨q1, ⟨q2, q3, q4⟩, ⟨i1, i2⟩, t1, t2, t3, t4⟩ := ci
  unfold wX11_restore
  rw [i1]
  refine ⟨by omega, fun z => ?_, kx⟩
  have z1 : im.1 = 1 := by omega
  obtain ⟨⟨j1, j2, j3⟩, j4⟩ := i2 z1
  refine copyL_c (by decide) hp q1 j1 (fun ha fa la => ?_)
  have q1a := q1.fr fa
  have j2a := j2.frL fa (by omega)
  refine histCopy_c (Or.inl ⟨rfl, rfl⟩) hp q1a j2a (fun hb' fb hhb => ?_)
  have j3b : NotesC hb' 6 im.2.1.2.2.2.1 im.2.1.2.2.2.2 := (j3.congr (fun k hk => fa k 6 (by omega))).congr (fun k hk => fb k 6 (by unfold ntK at hk; omega) (by omega))
  refine noteCopy_c (by decide) j3b (fun hc fc nc => ⟨⟨by omega, by omega, by omega, by omega, by omega⟩, fun hd ed => ?_⟩)
  have E : ∀ k i, k ≠ 46 → ¬ (ntK k ∧ i = 5) → ¬ (k = 5 ∧ i = 3) → ¬ (lnK k ∧ 20 ≤ i ∧ i < 60) → ¬ (i = 10 ∧ lnK k) → hd k i = h k i := by
    intro k i a1 a3 a4 a5 a6
    rw [ed, upr_k a1, fc k i a3, fb k i a4 (fun z => a5 ⟨z.1, by omega, by omega⟩), fa k i a6]
  have L10 : ∀ k, lnK k → hd k 10 = ha k 10 := by
    intro k hk
    rw [ed, upr_k (by unfold lnK at hk; omega), fc k 10 (by omega), fb k 10 (by omega) (by omega)]
  have x47 : hc 47 0 = h 47 0 := by rw [fc 47 0 (by unfold ntK; omega), fb 47 0 (by omega) (by unfold lnK; omega), fa 47 0 (by unfold lnK; omega)]
  have x46 : ∀ i, 0 ≤ i → i < 3 → hd 46 0 i = im.2.2 i := by
    intro i i0 i1'
    rw [ed, upr_eq]
    show (if 0 ≤ i ∧ i < 0 + 3 then hc 47 0 (0 + (i - 0)) else hc 46 0 i) = _
    rw [if_pos (by omega), show (0 : Int) + (i - 0) = i by omega, x47]
    exact j4 i i0 i1'
  refine k hd (fun k hk => ?_) z1 ⟨q1.congr (fun k hk => E k 1 (by omega) (by omega) (by omega) (by omega) (by omega)), ⟨la.congr L10, hhb.fr ?_ (fun k i hk i0 i1 => ?_), nc.congr (fun k hk => ?_)⟩, ⟨?_, fun _ => ⟨⟨j1.congr (fun k hk => E k 11 (by unfold lnK at hk; omega) (by omega) (by omega) (by omega) (by omega)), j2.fr (E 5 4 (by omega) (by omega) (by omega) (by unfold lnK; omega) (by omega)) (fun k i hk i0 i1 => E k i (by unfold lnK at hk; omega) (by omega) (by omega) (by omega) (by omega)), j3.congr (fun k hk => E k 6 (by unfold ntK at hk; omega) (by omega) (by omega) (by omega) (by omega))⟩, ?_⟩⟩, ?_, ?_, ?_, x46⟩
  · funext i
    refine E k i (by omega) ?_ (by omega) ?_ ?_
    · unfold ntK; omega
    · unfold lnK; omega
    · unfold lnK; omega
  · rw [ed, upr_k (by decide), fc 5 3 (by omega)]
  · rw [ed, upr_k (by unfold lnK at hk; omega), fc k i (by unfold lnK at hk; unfold ntK; omega)]
  · rw [ed, upr_k (by unfold ntK at hk; omega)]
  · rw [E 11 0 (by omega) (by unfold ntK; omega) (by omega) (by unfold lnK; omega) (by omega)]; exact i1
  · rw [E 47 0 (by omega) (by unfold ntK; omega) (by omega) (by unfold lnK; omega) (by omega)]; exact j4
  · rw [E 11 0 (by omega) (by unfold ntK; omega) (by omega) (by unfold lnK; omega) (by omega)]; exact t1
  · rw [E 45 0 (by omega) (by unfold ntK; omega) (by omega) (by unfold lnK; omega) (by omega)]; exact t2
  · rw [E 11 0 (by omega) (by unfold ntK; omega) (by omega) (by unfold lnK; omega) (by omega)]; exact t3
/-- one copy of the reference, by what it leaves alone -/
def Cp (k0 k1 : Nat) (n : Int) (h h' : HP) : Prop := (∀ k, k ≠ k0 → h' k = h k) ∧ ∀ j, 0 ≤ j → j < n → h' k0 7 j = h k1 7 j
theorem copy_r {k0 k1 : Nat} {n : Nat} {h : HP} {P : HP → Prop} (c0 : kCls k0 = 99) (c1 : kCls k1 = 99) (l0 : kLen k0 = n) (l1 : kLen k1 = n) (hn : n < 1000000) (ne : k1 ≠ k0) (k : ∀ h', Cp k0 k1 n h h' → P h') : wX12_copyTo k0 7 k1 7 h P :=
  copyTo_r c0 c1 l0 l1 hn ne (fun h' e => k h' ⟨fun k hk => by rw [e, upr_k hk], fun j j0 j1 => by rw [e, upr_eq]; exact if_pos ⟨j0, j1⟩⟩)
theorem image_r {h : HP} {π : PL} {K : Int} {s : SD} {im : IM} {t : TX} {P : HP → Prop} (w : WA π K s im t) (ri : RI h π s im t) (k : ∀ h', FrRf h h' → h' 12 7 1 = 0 → RI h' π s (imgOf s t) t → P h') : wX12_image 7 h P := by
  have hp := w.1
  unfold wX12_image
  intro h1 e1 h2 e2 h3 e3 h4 e4
  have o1 : OkR h h1 0 := by rw [e1]; exact OkR.start ri.2.2.2.2 0
  have ri1 := o1.ri w ri
  obtain ⟨q1, ⟨s1, ⟨p1, p2, p3⟩, s3, s4⟩, ⟨i1, i2⟩, ⟨t1, t2, t3, t4⟩, id⟩ := id ri1
  have x35 : h2 12 7 35 = s.2.1 := by rw [e2, up_j (by decide)]; exact p1
  have x38 : h3 12 7 38 = s.2.2.2.1 := by rw [e3, up_j (by decide), e2, up_j (by decide)]; exact s3
  have j4 : ∀ j, j ≠ 50 → j ≠ 51 → j ≠ 52 → h4 12 7 j = h1 12 7 j := fun j a b c => by rw [e4, up_j c, e3, up_j b, e2, up_j a]
  have k4 : ∀ k, k ≠ 12 → h4 k = h1 k := fun k hk => by rw [e4, up_k hk, e3, up_k hk, e2, up_k hk]
  refine copy_r (n := 3099) rfl rfl rfl rfl (by omega) (by decide) (fun h5 c5 => ?_)
  refine copy_r (n := 123960) rfl rfl rfl rfl (by omega) (by decide) (fun h6 c6 => ?_)
  refine copy_r (n := 8) rfl rfl rfl rfl (by omega) (by decide) (fun h7 c7 => ?_)
  refine copy_r (n := 8) rfl rfl rfl rfl (by omega) (by decide) (fun h8 c8 => ?_)
  refine copy_r (n := 8) rfl rfl rfl rfl (by omega) (by decide) (fun h9 c9 => ?_)
  refine copy_r (n := 3) rfl rfl rfl rfl (by omega) (by decide) (fun h10 c10 => ?_)
  have G : ∀ k, k < 71 → h10 k = h4 k := fun k hk => by rw [c10.1 k (by omega), c9.1 k (by omega), c8.1 k (by omega), c7.1 k (by omega), c6.1 k (by omega), c5.1 k (by omega)]
  have G1 : ∀ k, k < 71 → k ≠ 12 → h10 k = h1 k := fun k hk h12 => by rw [G k hk, k4 k h12]
  have J : ∀ j, j ≠ 50 → j ≠ 51 → j ≠ 52 → h10 12 7 j = h1 12 7 j := fun j a b c => by rw [G 12 (by decide)]; exact j4 j a b c
  have v71 : ∀ j, 0 ≤ j → j < 3099 → h10 71 7 j = h1 56 7 j := fun j j0 j1 => by
    rw [c10.1 71 (by decide), c9.1 71 (by decide), c8.1 71 (by decide), c7.1 71 (by decide), c6.1 71 (by decide), c5.2 j j0 j1, k4 56 (by decide)]
  have v72 : ∀ j, 0 ≤ j → j < 123960 → h10 72 7 j = h1 62 7 j := fun j j0 j1 => by
    rw [c10.1 72 (by decide), c9.1 72 (by decide), c8.1 72 (by decide), c7.1 72 (by decide), c6.2 j j0 j1, c5.1 62 (by decide), k4 62 (by decide)]
  have v73 : ∀ j, 0 ≤ j → j < 8 → h10 73 7 j = h1 64 7 j := fun j j0 j1 => by
    rw [c10.1 73 (by decide), c9.1 73 (by decide), c8.1 73 (by decide), c7.2 j j0 j1, c6.1 64 (by decide), c5.1 64 (by decide), k4 64 (by decide)]
  have v74 : ∀ j, 0 ≤ j → j < 8 → h10 74 7 j = h1 65 7 j := fun j j0 j1 => by
    rw [c10.1 74 (by decide), c9.1 74 (by decide), c8.2 j j0 j1, c7.1 65 (by decide), c6.1 65 (by decide), c5.1 65 (by decide), k4 65 (by decide)]
  have v75 : ∀ j, 0 ≤ j → j < 8 → h10 75 7 j = h1 66 7 j := fun j j0 j1 => by
    rw [c10.1 75 (by decide), c9.2 j j0 j1, c8.1 66 (by decide), c7.1 66 (by decide), c6.1 66 (by decide), c5.1 66 (by decide), k4 66 (by decide)]
  have v76 : ∀ j, 0 ≤ j → j < 3 → h10 76 7 j = h1 57 7 j := fun j j0 j1 => by
    rw [c10.2 j j0 j1, c9.1 57 (by decide), c8.1 57 (by decide), c7.1 57 (by decide), c6.1 57 (by decide), c5.1 57 (by decide), k4 57 (by decide)]
  have m8 := w.2.1.2.2.2.1
  have n40 := w.2.1.2.1
  refine k h10 (fun k k1 k2 => by rw [G1 k (by omega) k1, o1.1.rfr k k1 k2]) (by rw [J 1 (by decide) (by decide) (by decide)]; exact o1.2.2) ⟨q1.congr (fun k k1 k2 => G1 k (by omega) (by omega)), ⟨by rw [G1 56 (by decide) (by decide)]; exact s1, ⟨by rw [J 35 (by decide) (by decide) (by decide)]; exact p1, p2, by rw [G1 62 (by decide) (by decide)]; exact p3⟩, by rw [J 38 (by decide) (by decide) (by decide)]; exact s3, ?_⟩, ⟨?_, fun _ => ⟨⟨?_, ⟨?_, fun i i0 i1 => ?_⟩, ?_, fun j j0 j1 => ?_⟩, fun i i0 i1 => ?_⟩⟩, ⟨by rw [J 12 (by decide) (by decide) (by decide)]; exact t1, by rw [G1 58 (by decide) (by decide)]; exact t2, by rw [J 21 (by decide) (by decide) (by decide)]; exact t3, by rw [G1 57 (by decide) (by decide)]; exact t4⟩, ?_⟩
  · unfold NoteR at *; rw [G1 64 (by decide) (by decide), G1 65 (by decide) (by decide), G1 66 (by decide) (by decide)]; exact s4
  · rw [G 12 (by decide), e4, up_j (by decide), e3, up_j (by decide), e2, up_eq]; rfl
  · exact s1.ext hp w.qln (fun j j0 j1 => v71 j j0 j1)
  · show h10 12 7 51 = s.2.1
    rw [G 12 (by decide), e4, up_j (by decide), e3, up_eq, x35]
  · have i1' : i < s.2.1 := i1
    refine (p3 i i0 i1').ext hp (fun b b0 b1 => (w.2.1.2.2.1 i i0 i1').1.qln b b0 b1) (fun j j0 j1 => v72 _ (by omega) (by omega))
  · show h10 12 7 52 = s.2.2.2.1
    rw [G 12 (by decide), e4, up_eq, x38]
  · have j1' : j < s.2.2.2.1 := j1
    have := s4 j j0 j1'
    show h10 73 7 j = _ ∧ h10 74 7 j = _ ∧ h10 75 7 j = _
    rw [v73 j j0 (by omega), v74 j j0 (by omega), v75 j j0 (by omega)]
    exact this
  · rw [v76 i i0 i1]; exact t4 i i0 i1
  · unfold IdleR at *
    rw [J 29 (by decide) (by decide) (by decide), J 32 (by decide) (by decide) (by decide), J 31 (by decide) (by decide) (by decide), J 33 (by decide) (by decide) (by decide)]; exact id
theorem restore_r {h : HP} {π : PL} {K : Int} {s : SD} {im : IM} {t : TX} {P : Int → HP → Prop} (w : WA π K s im t) (ri : RI h π s im t) (k : ∀ h', FrRf h h' → h' 12 7 1 = 0 → im.1 = 1 → RI h' π im.2.1 im (resT t im) → P 1 h') (kx : ∀ h', FrRf h h' → h' 12 7 1 = 0 → im.1 = 0 → RI h' π s im t → P 0 h') : wX12_restore 7 h P := by
  have hp := w.1
  have i01 := w.2.2.1
  unfold wX12_restore
  intro h1 e1
  have o1 : OkR h h1 0 := by rw [e1]; exact OkR.start ri.2.2.2.2 0
  have ri1 := o1.ri w ri
  obtain ⟨q1, ⟨s1, ⟨p1, p2, p3⟩, s3, s4⟩, ⟨i1, i2⟩, ⟨t1, t2, t3, t4⟩, id⟩ := id ri1
  rw [i1]
  refine ⟨by omega, fun z h4 e4 h5 e5 => ?_, fun z => kx h1 o1.1.rfr o1.2.2 z ri1⟩
  have z1 : im.1 = 1 := by omega
  obtain ⟨⟨r1, ⟨r2, r3⟩, r4, r5⟩, r6⟩ := i2 z1
  have sa := w.2.2.2.1 z1
  have x52 : h4 12 7 52 = im.2.1.2.2.2.1 := by rw [e4, up_j (by decide)]; exact r4
  have k5 : ∀ k, k ≠ 12 → h5 k = h1 k := fun k hk => by rw [e5, up_k hk, e4, up_k hk]
  have j5 : ∀ j, j ≠ 35 → j ≠ 38 → h5 12 7 j = h1 12 7 j := fun j a b => by rw [e5, up_j b, e4, up_j a]
  refine copy_r (n := 3099) rfl rfl rfl rfl (by omega) (by decide) (fun h6 c5 => ?_)
  refine copy_r (n := 123960) rfl rfl rfl rfl (by omega) (by decide) (fun h7 c6 => ?_)
  refine copy_r (n := 8) rfl rfl rfl rfl (by omega) (by decide) (fun h8 c7 => ?_)
  refine copy_r (n := 8) rfl rfl rfl rfl (by omega) (by decide) (fun h9 c8 => ?_)
  refine copy_r (n := 8) rfl rfl rfl rfl (by omega) (by decide) (fun h10 c9 => ?_)
  refine copy_r (n := 3) rfl rfl rfl rfl (by omega) (by decide) (fun h11 c10 => ?_)
  have G : ∀ k, k ≠ 56 → k ≠ 62 → k ≠ 64 → k ≠ 65 → k ≠ 66 → k ≠ 57 → h11 k = h5 k := fun k a b c d e f => by rw [c10.1 k f, c9.1 k e, c8.1 k d, c7.1 k c, c6.1 k b, c5.1 k a]
  have G1 : ∀ k, k ≠ 12 → k ≠ 56 → k ≠ 62 → k ≠ 64 → k ≠ 65 → k ≠ 66 → k ≠ 57 → h11 k = h1 k := fun k z a b c d e f => by rw [G k a b c d e f, k5 k z]
  have e12 : h11 12 = h5 12 := G 12 (by decide) (by decide) (by decide) (by decide) (by decide) (by decide)
  have J : ∀ j, j ≠ 35 → j ≠ 38 → h11 12 7 j = h1 12 7 j := fun j a b => by rw [e12]; exact j5 j a b
  have v56 : ∀ j, 0 ≤ j → j < 3099 → h11 56 7 j = h1 71 7 j := fun j j0 j1 => by
    rw [c10.1 56 (by decide), c9.1 56 (by decide), c8.1 56 (by decide), c7.1 56 (by decide), c6.1 56 (by decide), c5.2 j j0 j1, k5 71 (by decide)]
  have v62 : ∀ j, 0 ≤ j → j < 123960 → h11 62 7 j = h1 72 7 j := fun j j0 j1 => by
    rw [c10.1 62 (by decide), c9.1 62 (by decide), c8.1 62 (by decide), c7.1 62 (by decide), c6.2 j j0 j1, c5.1 72 (by decide), k5 72 (by decide)]
  have v64 : ∀ j, 0 ≤ j → j < 8 → h11 64 7 j = h1 73 7 j := fun j j0 j1 => by
    rw [c10.1 64 (by decide), c9.1 64 (by decide), c8.1 64 (by decide), c7.2 j j0 j1, c6.1 73 (by decide), c5.1 73 (by decide), k5 73 (by decide)]
  have v65 : ∀ j, 0 ≤ j → j < 8 → h11 65 7 j = h1 74 7 j := fun j j0 j1 => by
    rw [c10.1 65 (by decide), c9.1 65 (by decide), c8.2 j j0 j1, c7.1 74 (by decide), c6.1 74 (by decide), c5.1 74 (by decide), k5 74 (by decide)]
  have v66 : ∀ j, 0 ≤ j → j < 8 → h11 66 7 j = h1 75 7 j := fun j j0 j1 => by
    rw [c10.1 66 (by decide), c9.2 j j0 j1, c8.1 75 (by decide), c7.1 75 (by decide), c6.1 75 (by decide), c5.1 75 (by decide), k5 75 (by decide)]
  have v57 : ∀ j, 0 ≤ j → j < 3 → h11 57 7 j = h1 76 7 j := fun j j0 j1 => by
    rw [c10.2 j j0 j1, c9.1 76 (by decide), c8.1 76 (by decide), c7.1 76 (by decide), c6.1 76 (by decide), c5.1 76 (by decide), k5 76 (by decide)]
  have m8 := sa.2.2.2.1
  have n40 := sa.2.1
  refine k h11 (fun k k1 k2 => by rw [G1 k k1 (by omega) (by omega) (by omega) (by omega) (by omega) (by omega), o1.1.rfr k k1 k2]) (by rw [J 1 (by decide) (by decide)]; exact o1.2.2) z1 ⟨q1.congr (fun k k1 k2 => G1 k (by omega) (by omega) (by omega) (by omega) (by omega) (by omega) (by omega)), ⟨?_, ⟨?_, n40, fun i i0 i1 => ?_⟩, ?_, fun j j0 j1 => ?_⟩, ⟨by rw [J 50 (by decide) (by decide)]; exact i1, fun z => ?_⟩, ⟨by rw [J 12 (by decide) (by decide)]; exact t1, by rw [G1 58 (by decide) (by decide) (by decide) (by decide) (by decide) (by decide) (by decide)]; exact t2, by rw [J 21 (by decide) (by decide)]; exact t3, fun i i0 i1 => ?_⟩, ?_⟩
  · exact r1.ext hp (fun b b0 b1 => sa.1.1.qln b b0 b1) (fun j j0 j1 => v56 j j0 j1)
  · rw [e12, e5, up_j (by decide), e4, up_eq]; exact r2
  · exact (r3 i i0 i1).ext hp (fun b b0 b1 => (sa.2.2.1 i i0 i1).1.qln b b0 b1) (fun j j0 j1 => v62 _ (by omega) (by omega))
  · rw [e12, e5, up_eq, x52]
  · have := r5 j j0 j1
    show h11 64 7 j = _ ∧ h11 65 7 j = _ ∧ h11 66 7 j = _
    rw [v64 j j0 (by omega), v65 j j0 (by omega), v66 j j0 (by omega)]
    exact this
  · have := i2 z
    unfold SideI NoteR at *
    rw [G1 71 (by decide) (by decide) (by decide) (by decide) (by decide) (by decide) (by decide), J 51 (by decide) (by decide), G1 72 (by decide) (by decide) (by decide) (by decide) (by decide) (by decide) (by decide), J 52 (by decide) (by decide), G1 73 (by decide) (by decide) (by decide) (by decide) (by decide) (by decide) (by decide), G1 74 (by decide) (by decide) (by decide) (by decide) (by decide) (by decide) (by decide), G1 75 (by decide) (by decide) (by decide) (by decide) (by decide) (by decide) (by decide), G1 76 (by decide) (by decide) (by decide) (by decide) (by decide) (by decide) (by decide)]
    exact this
  · rw [v57 i i0 i1]; exact r6 i i0 i1
  · unfold IdleR at *
    rw [J 29 (by decide) (by decide), J 32 (by decide) (by decide), J 31 (by decide) (by decide), J 33 (by decide) (by decide)]; exact id
