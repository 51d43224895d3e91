def undoS (s : SD) : SD := (s.2.2.1 (s.2.1 - 1), s.2.1 - 1, s.2.2.1, s.2.2.2.1, s.2.2.2.2)
theorem undoQ_c {h : HP} {π : PL} {K : Int} {s : SD} {im : IM} {t : TX} {P : Int → HP → Prop} (w : WA π K s im t) (ci : CI h π s im t)
    (k : ∀ h', FrCm h h' → s.2.1 ≠ 0 → CI h' π (undoS s) im t → P (s.2.1 - 1) h') (kx : s.2.1 = 0 → P (-1) h) : wX11_undo 0 h P := by
  have hp := w.1
  have n40 := w.2.1.2.1
  have h3 : hb 3 = 20 := rfl
  have h4 : hb 4 = 60 := rfl
  obtain ⟨q1, ⟨q2, q3, q4⟩, ⟨i1, i2⟩, t1, t2, t3, t4⟩ := ci
  unfold wX11_undo wX5_size
  rw [q3.1]
  refine ⟨by omega, fun z => takeBack_c hp q1 (by omega) q3 (by omega) (fun h' f hh l => ?_), kx⟩
  rw [hh.1]
  refine k h' (fun k hk => ?_) z ⟨q1.congr (fun k hk => f k 1 (by omega) (by omega)), ⟨l, hh, q4.congr (fun k hk => f k 5 (by unfold ntK at hk; omega) (by omega))⟩, ⟨by rw [f 11 0 (by omega) (by omega)]; exact i1, fun y => ?_⟩, by rw [f 11 0 (by omega) (by omega)]; exact t1, by rw [f 45 0 (by omega) (by omega)]; exact t2, by rw [f 11 0 (by omega) (by omega)]; exact t3, by rw [f 46 0 (by omega) (by omega)]; exact t4⟩
  · funext i
    exact f k i (by omega) (by unfold lnK; omega)
  · obtain ⟨⟨j1, j2, j3⟩, j4⟩ := i2 y
    exact ⟨⟨j1.congr (fun k hk => f k 11 (by unfold lnK at hk; omega) (by omega)), j2.fr (f 5 4 (by omega) (by omega)) (fun k i hk i0 i1 => f k i (by unfold lnK at hk; omega) (by omega)), j3.congr (fun k hk => f k 6 (by unfold ntK at hk; omega) (by omega))⟩, by rw [f 47 0 (by omega) (by omega)]; exact j4⟩
