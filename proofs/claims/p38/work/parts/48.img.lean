def resT (t : TX) (im : IM) : TX := (t.1, t.2.1, t.2.2.1, im.2.2)
theorem restore_c {h : HP} {π : PL} {K : Int} {s : SD} {im : IM} {t : TX} {P : Int → HP → Prop} (w : WA π K s im t) (ci : CI h π s im t) (k : ∀ h', FrCm h h' → im.1 = 1 → CI h' π im.2.1 im (resT t im) → P 1 h') (kx : im.1 = 0 → P 0 h) : wX11_restore 0 h P := by
  have hp := w.1
  have h3 : hb 3 = 20 := rfl
  have h4 : hb 4 = 60 := rfl
  have i01 := w.2.2.1
  obtain ⟨q1, ⟨q2, q3, q4⟩, ⟨i1, i2⟩, t1, t2, t3, t4⟩ := ci
  unfold wX11_restore
  rw [i1]
  refine ⟨by omega, fun z => ?_, kx⟩
  have z1 : im.1 = 1 := by omega
  obtain ⟨⟨j1, j2, j3⟩, j4⟩ := i2 z1
  refine copyL_c (by decide) hp q1 j1 (fun ha fa la => ?_)
  have q1a := q1.fr fa
  have j2a := j2.frL fa (by omega)
  refine histCopy_c (Or.inl ⟨rfl, rfl⟩) hp q1a j2a (fun hb' fb hhb => ?_)
  have j3b : NotesC hb' 6 im.2.1.2.2.2.1 im.2.1.2.2.2.2 := (j3.congr (fun k hk => fa k 6 (by omega))).congr (fun k hk => fb k 6 (by unfold ntK at hk; omega) (by omega))
  refine noteCopy_c (by decide) j3b (fun hc fc nc => ⟨⟨by omega, by omega, by omega, by omega, by omega⟩, fun hd ed => ?_⟩)
  have E : ∀ k i, k ≠ 46 → ¬ (ntK k ∧ i = 5) → ¬ (k = 5 ∧ i = 3) → ¬ (lnK k ∧ 20 ≤ i ∧ i < 60) → ¬ (i = 10 ∧ lnK k) → hd k i = h k i := by
    intro k i a1 a3 a4 a5 a6
    rw [ed, upr_k a1, fc k i a3, fb k i a4 (fun z => a5 ⟨z.1, by omega, by omega⟩), fa k i a6]
  have L10 : ∀ k, lnK k → hd k 10 = ha k 10 := by
    intro k hk
    rw [ed, upr_k (by unfold lnK at hk; omega), fc k 10 (by omega), fb k 10 (by omega) (by omega)]
  have x47 : hc 47 0 = h 47 0 := by rw [fc 47 0 (by unfold ntK; omega), fb 47 0 (by omega) (by unfold lnK; omega), fa 47 0 (by unfold lnK; omega)]
  have x46 : ∀ i, 0 ≤ i → i < 3 → hd 46 0 i = im.2.2 i := by
    intro i i0 i1'
    rw [ed, upr_eq]
    show (if 0 ≤ i ∧ i < 0 + 3 then hc 47 0 (0 + (i - 0)) else hc 46 0 i) = _
    rw [if_pos (by omega), show (0 : Int) + (i - 0) = i by omega, x47]
    exact j4 i i0 i1'
  refine k hd (fun k hk => ?_) z1 ⟨q1.congr (fun k hk => E k 1 (by omega) (by omega) (by omega) (by omega) (by omega)), ⟨la.congr L10, hhb.fr ?_ (fun k i hk i0 i1 => ?_), nc.congr (fun k hk => ?_)⟩, ⟨?_, fun _ => ⟨⟨j1.congr (fun k hk => E k 11 (by unfold lnK at hk; omega) (by omega) (by omega) (by omega) (by omega)), j2.fr (E 5 4 (by omega) (by omega) (by omega) (by unfold lnK; omega) (by omega)) (fun k i hk i0 i1 => E k i (by unfold lnK at hk; omega) (by omega) (by omega) (by omega) (by omega)), j3.congr (fun k hk => E k 6 (by unfold ntK at hk; omega) (by omega) (by omega) (by omega) (by omega))⟩, ?_⟩⟩, ?_, ?_, ?_, x46⟩
  · funext i
    refine E k i (by omega) ?_ (by omega) ?_ ?_
    · unfold ntK; omega
    · unfold lnK; omega
    · unfold lnK; omega
  · rw [ed, upr_k (by decide), fc 5 3 (by omega)]
  · rw [ed, upr_k (by unfold lnK at hk; omega), fc k i (by unfold lnK at hk; unfold ntK; omega)]
  · rw [ed, upr_k (by unfold ntK at hk; omega)]
  · rw [E 11 0 (by omega) (by unfold ntK; omega) (by omega) (by unfold lnK; omega) (by omega)]; exact i1
  · rw [E 47 0 (by omega) (by unfold ntK; omega) (by omega) (by unfold lnK; omega) (by omega)]; exact j4
  · rw [E 11 0 (by omega) (by unfold ntK; omega) (by omega) (by unfold lnK; omega) (by omega)]; exact t1
  · rw [E 45 0 (by omega) (by unfold ntK; omega) (by omega) (by unfold lnK; omega) (by omega)]; exact t2
  · rw [E 11 0 (by omega) (by unfold ntK; omega) (by omega) (by unfold lnK; omega) (by omega)]; exact t3
