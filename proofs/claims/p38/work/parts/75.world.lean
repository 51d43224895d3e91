def nrm (x : Int) : Int := (Int32.ofInt x).toInt
def ZS (π : PL) (s : SD) : Prop := szOK π s.1 ∧ ∀ i, 0 ≤ i → i < s.2.1 → szOK π (s.2.2.1 i)
theorem ZS.keep {π : PL} {s : SD} (a : ZS π s) : ZS π (keepS s) := by
  obtain ⟨a1, a3⟩ := a
  refine ⟨a1, fun i i0 i1 => ?_⟩
  have i1' : i < keepN s.2.1 := i1
  show szOK π (keepH s.2.1 s.2.2.1 s.1 i)
  unfold keepN at i1'
  unfold keepH
  by_cases c : s.2.1 < 40
  · rw [if_pos c] at i1' ⊢
    show szOK π (if i = s.2.1 then s.1 else s.2.2.1 i)
    by_cases z : i = s.2.1
    · rw [if_pos z]; exact a1
    · rw [if_neg z]; exact a3 i i0 (by omega)
  · rw [if_neg c] at i1' ⊢
    show szOK π (if i = 39 then s.1 else s.2.2.1 (i + 1))
    by_cases z : i = 39
    · rw [if_pos z]; exact a1
    · rw [if_neg z]; exact a3 (i + 1) (by omega) (by omega)
theorem ZS.set {π : PL} {s : SD} {σ : ST} (a : ZS π s) (q : szOK π σ) : ZS π (setS s σ) := ⟨q, a.2⟩
/-- a state more, behind an act -/
theorem WA.act {π : PL} {K : Int} {s : SD} {im : IM} {t : TX} {σ : ST} (w : WA π K s im t) (l : LInv π (K + 1) σ) : WA π (K + 1) (setS (keepS s) σ) im t := by
  have w' := w.mono (show K ≤ K + 1 by omega)
  exact ⟨w'.1, w'.2.1.keep.set l, w'.2.2⟩
