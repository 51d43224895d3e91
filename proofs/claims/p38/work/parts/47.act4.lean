def imgOf (s : SD) (t : TX) : IM := (1, s, t.2.2.2)
theorem image_c {h : HP} {π : PL} {K : Int} {s : SD} {im : IM} {t : TX} {P : HP → Prop} (w : WA π K s im t) (ci : CI h π s im t) (k : ∀ h', FrCm h h' → CI h' π s (imgOf s t) t → P h') : wX11_image 0 h P := by
  have hp := w.1
  have h3 : hb 3 = 20 := rfl
  have h4 : hb 4 = 60 := rfl
  obtain ⟨q1, ⟨q2, q3, q4⟩, ⟨i1, i2⟩, t1, t2, t3, t4⟩ := ci
  unfold wX11_image
  refine copyL_c (by decide) hp q1 q2 (fun ha fa la => ?_)
  have q1a := q1.fr fa
  have q3a := q3.frL fa (by omega)
  refine histCopy_c (Or.inr ⟨rfl, rfl⟩) hp q1a q3a (fun hb' fb hhb => ?_)
  have q4b : NotesC hb' 5 s.2.2.2.1 s.2.2.2.2 := (q4.congr (fun k hk => fa k 5 (by omega))).congr (fun k hk => fb k 5 (by unfold ntK at hk; omega) (by omega))
  refine noteCopy_c (by decide) q4b (fun hc fc nc => ⟨⟨by omega, by omega, by omega, by omega, by omega⟩, fun hd ed he ee => ?_⟩)
  -- all in all
  have E : ∀ k i, k ≠ 47 → ¬ (k = 11 ∧ i = 0) → ¬ (ntK k ∧ i = 6) → ¬ (k = 5 ∧ i = 4) → ¬ (lnK k ∧ 60 ≤ i ∧ i < 100) → ¬ (i = 11 ∧ lnK k) → he k i = h k i := by
    intro k i a1 a2 a3 a4 a5 a6
    have x1 : he k i = hd k i := by
      rw [ee]
      by_cases z : k = 11
      · subst z; exact up_i (fun y => a2 ⟨rfl, y⟩)
      · exact congrFun (up_k z) i
    rw [x1, ed, upr_k a1, fc k i a3, fb k i a4 (fun z => a5 ⟨z.1, by omega, by omega⟩), fa k i a6]
  have L11 : ∀ k, lnK k → he k 11 = ha k 11 := by
    intro k hk
    have x1 : he k 11 = hd k 11 := by rw [ee]; exact congrFun (up_k (by unfold lnK at hk; omega)) 11
    rw [x1, ed, upr_k (by unfold lnK at hk; omega), fc k 11 (by omega), fb k 11 (by omega) (by omega)]
  have x11 : ∀ j, j ≠ 10 → he 11 0 j = h 11 0 j := by
    intro j hj
    rw [ee, up_j hj, ed, upr_k (by decide), fc 11 0 (by omega), fb 11 0 (by omega) (by unfold lnK; omega), fa 11 0 (by omega)]
  have x46 : hc 46 0 = h 46 0 := by rw [fc 46 0 (by unfold ntK; omega), fb 46 0 (by omega) (by unfold lnK; omega), fa 46 0 (by unfold lnK; omega)]
  have x47 : ∀ i, 0 ≤ i → i < 3 → he 47 0 i = t.2.2.2 i := by
    intro i i0 i1
    rw [ee, up_k (by decide), ed, upr_eq]
    show (if 0 ≤ i ∧ i < 0 + 3 then hc 46 0 (0 + (i - 0)) else hc 47 0 i) = _
    rw [if_pos (by omega), show (0 : Int) + (i - 0) = i by omega, x46]
    exact t4 i i0 i1
  refine k he (fun k hk => ?_) ⟨q1.congr (fun k hk => E k 1 (by omega) (by omega) (by omega) (by omega) (by omega) (by omega)), ⟨q2.congr (fun k hk => E k 10 (by unfold lnK at hk; omega) (by omega) (by omega) (by omega) (by omega) (by omega)), q3.fr (E 5 3 (by omega) (by omega) (by omega) (by omega) (by omega) (by omega)) (fun k i hk i0 i1 => E k i (by unfold lnK at hk; omega) (by omega) (by omega) (by omega) (by omega) (by omega)), q4.congr (fun k hk => E k 5 (by unfold ntK at hk; omega) (by omega) (by omega) (by omega) (by omega) (by omega))⟩, ⟨by rw [ee, up_eq]; rfl, fun _ => ⟨⟨la.congr L11, hhb.fr ?_ (fun k i hk i0 i1 => ?_), nc.congr (fun k hk => ?_)⟩, x47⟩⟩, ?_, ?_, ?_, ?_⟩
  · funext i
    refine E k i (by omega) (by omega) ?_ (by omega) ?_ ?_
    · unfold ntK; omega
    · unfold lnK; omega
    · unfold lnK; omega
  · rw [ee, up_k (by decide), ed, upr_k (by decide), fc 5 4 (by omega)]
  · rw [ee, up_k (by unfold lnK at hk; omega), ed, upr_k (by unfold lnK at hk; omega), fc k i (by unfold lnK at hk; unfold ntK; omega)]
  · rw [ee, up_k (by unfold ntK at hk; omega), ed, upr_k (by unfold ntK at hk; omega)]
  · rw [x11 1 (by decide)]; exact t1
  · rw [E 45 0 (by omega) (by omega) (by omega) (by omega) (by unfold lnK; omega) (by omega)]; exact t2
  · rw [x11 2 (by decide)]; exact t3
  · rw [E 46 0 (by omega) (by omega) (by omega) (by omega) (by unfold lnK; omega) (by omega)]; exact t4
