theorem LaidC.abs {h : HP} {L s : Int} {σ : ST} (q : LaidC h L s σ) : (∀ j, s * 32 ≤ j → j < s * 32 + h 17 L s → (0 ≤ h 18 L j ∧ h 18 L j ≤ xB) ∧ (0 ≤ h 19 L j ∧ h 19 L j ≤ cur σ s)) ∧ (∀ i j, s * 32 ≤ i → i < j → j < s * 32 + h 17 L s → h 19 L i < h 19 L j) := by
  obtain ⟨a1, a2, a3, -, -⟩ := q
  refine ⟨fun j j0 j1 => ?_, fun i j i0 i1 i2 => ?_⟩
  · have := a2 (j - s * 32) (by omega) (by omega)
    rw [show s * 32 + (j - s * 32) = j by omega] at this
    exact this
  · have := a3 (i - s * 32) (j - s * 32) (by omega) (by omega) (by omega)
    rw [show s * 32 + (j - s * 32) = j by omega, show s * 32 + (i - s * 32) = i by omega] at this
    exact this
theorem lay_scan {h : HP} {L s x y : Int} {σ : ST} {K : Int → Int → Prop} (hs : 0 ≤ s ∧ s < 36) (q : CurveC h L s σ) (o : slotOK σ s) (hm : 0 < σ 11 s 0) (hy : cur σ s = y) (hy2 : y ≤ 3000)
    (hK : ∀ b p, s * 32 ≤ p → p ≤ s * 32 + h 17 L s → s * 32 ≤ b → (b < p ∨ (b = s * 32 ∧ p = s * 32)) → (∀ i, s * 32 ≤ i → i < p → h 16 L s ≤ y - h 19 L i ∧ h 15 L s * h 18 L i - 100 * h 19 L i ≤ h 15 L s * h 18 L b - 100 * h 19 L b) → (p = s * 32 + h 17 L s ∨ y - h 19 L p < h 16 L s) → K b p) :
    ∀ (d : Nat) (b p : Int), s * 32 + h 17 L s - p = d → s * 32 ≤ p → s * 32 ≤ b → (b < p ∨ (b = s * 32 ∧ p = s * 32)) → (∀ i, s * 32 ≤ i → i < p → h 16 L s ≤ y - h 19 L i ∧ h 15 L s * h 18 L i - 100 * h 19 L i ≤ h 15 L s * h 18 L b - 100 * h 19 L b) →
      wX1_lay_35 L s x y (s * 32) (s * 32 + h 17 L s) h K (d + 1) b p := by
  obtain ⟨b1, b2, b3, b4, b5, b6⟩ := q
  obtain ⟨hb, -⟩ := b6.abs
  have hc := b6.1
  have hxB : xB = 18000000 := rfl
  have w := (o.1.2 hm)
  have h16 := b4 hm
  have ht := tbend_le w
  unfold wellC at w
  intro d
  induction d with
  | zero =>
    intro b p hd p0 q0 q1 q2
    rw [wX1_lay_35]
    exact ⟨by omega, by omega, fun _ => hK b p p0 (by omega) q0 q1 q2 (Or.inl (by omega)), fun c => absurd (by omega) c⟩
  | succ d ih =>
    intro b p hd p0 q0 q1 q2
    have ep := hb p p0 (by omega)
    have eb := hb b q0 (by omega)
    by_cases c : y - h 19 L p < h 16 L s
    · rw [wX1_lay_35]
      exact ⟨by omega, by omega, fun c' => absurd c' (by omega), fun _ => ⟨by omega, hs, by omega, by omega, fun _ => hK b p p0 (by omega) q0 q1 q2 (Or.inr c), fun c' => absurd c c'⟩⟩
    · have hmul := mul_rng (a := h 15 L s) (b := h 18 L p - h 18 L b) (A := 100) (B := 18000000) (by omega) (by omega) (by omega) (by omega) (by omega)
      have hsub : h 15 L s * (h 18 L p - h 18 L b) = h 15 L s * h 18 L p - h 15 L s * h 18 L b := Int.mul_sub _ _ _
      by_cases c2 : h 15 L s * (h 18 L p - h 18 L b) ≤ 100 * (h 19 L p - h 19 L b)
      · have hf := ih b (p + 1) (by omega) (by omega) q0 (by omega) (fun i i0 i1 => by
          by_cases z : i < p
          · exact q2 i i0 z
          · have : i = p := by omega
            subst this
            exact ⟨by omega, by omega⟩)
        rw [wX1_lay_35]
        refine ⟨by omega, by omega, fun c' => absurd c' (by omega), fun _ => ⟨by omega, hs, by omega, by omega, fun c' => absurd c' c, fun _ => ⟨hs, by omega, by omega, by omega, by omega, ⟨by omega, by omega⟩, fun t20 h20 => ?_⟩⟩⟩
        have e20 := h20.1 c2
        refine ⟨by omega, fun t23 h23 => ?_⟩
        have e23 := h23.1 e20
        rw [e23]
        exact hf
      · have hf := ih p (p + 1) (by omega) (by omega) p0 (by omega) (fun i i0 i1 => by
          by_cases z : i < p
          · have := q2 i i0 z
            exact ⟨this.1, by omega⟩
          · have : i = p := by omega
            subst this
            exact ⟨by omega, by omega⟩)
        rw [wX1_lay_35]
        refine ⟨by omega, by omega, fun c' => absurd c' (by omega), fun _ => ⟨by omega, hs, by omega, by omega, fun c' => absurd c' c, fun _ => ⟨hs, by omega, by omega, by omega, by omega, ⟨by omega, by omega⟩, fun t20 h20 => ?_⟩⟩⟩
        have e20 := h20.2 c2
        refine ⟨by omega, fun t23 h23 => ?_⟩
        have e23 := h23.2 (by omega)
        rw [e23]
        exact hf
def ShH (L l4 p : Int) (h0 h : HP) (i : Int) : Prop := FrCu L h0 h ∧ (∀ j, h 18 L j = if l4 + 1 ≤ j ∧ j < l4 + 1 + (i - p) then h0 18 L (j - (l4 + 1) + p) else h0 18 L j) ∧ (∀ j, h 19 L j = if l4 + 1 ≤ j ∧ j < l4 + 1 + (i - p) then h0 19 L (j - (l4 + 1) + p) else h0 19 L j) ∧ (h 13 L = h0 13 L ∧ h 14 L = h0 14 L ∧ h 15 L = h0 15 L ∧ h 16 L = h0 16 L ∧ h 17 L = h0 17 L)
theorem lay_shift {h0 : HP} {L s x y l4 l5 p : Int} {K : HP → Prop} (g0 : 0 ≤ l4) (g1 : l4 + 2 ≤ p) (g3 : l5 ≤ 1152)
    (hK : ∀ h, ShH L l4 p h0 h l5 → K h) : ∀ (d : Nat) (i : Int) (h : HP), l5 - i = d → p ≤ i → ShH L l4 p h0 h i → wX1_lay_171 L s x y l4 l5 p K (d + 1) i h := by
  intro d
  induction d with
  | zero =>
    intro i h hd hi q
    rw [wX1_lay_171]
    have e : i = l5 := by omega
    subst e
    exact ⟨by omega, by omega, fun _ => hK h q, fun c => absurd (Int.le_refl _) c⟩
  | succ d ih =>
    intro i h hd hi q
    obtain ⟨a1, a2, a3, a4, a5, a6, a7, a8⟩ := q
    have c18 : cuK 18 := by unfold cuK; omega
    have c19 : cuK 19 := by unfold cuK; omega
    have k18 : ∀ g : HP, (19 : Nat) ≠ 18 := fun _ => by decide
    have key : ShH L l4 p h0 (up (up h 18 L ((l4 + 1) + i - p) (h 18 L i)) 19 L ((l4 + 1) + i - p) ((up h 18 L ((l4 + 1) + i - p) (h 18 L i)) 19 L i)) (i + 1) := by
      refine ⟨(a1.tr (FrCu.up c18)).tr (FrCu.up c19), fun j => ?_, fun j => ?_, ?_, ?_, ?_, ?_, ?_⟩
      · rw [up_k (by decide), up_ji]
        by_cases z : j = (l4 + 1) + i - p
        · rw [if_pos z, if_pos (by omega), a2 i, if_neg (by omega)]
          congr 1
          omega
        · rw [if_neg z, a2 j]
          by_cases z2 : l4 + 1 ≤ j ∧ j < l4 + 1 + (i - p)
          · rw [if_pos z2, if_pos (by omega)]
          · rw [if_neg z2, if_neg (by omega)]
      · rw [up_ji, up_k (by decide)]
        by_cases z : j = (l4 + 1) + i - p
        · rw [if_pos z, if_pos (by omega), a3 i, if_neg (by omega)]
          congr 1
          omega
        · rw [if_neg z, a3 j]
          by_cases z2 : l4 + 1 ≤ j ∧ j < l4 + 1 + (i - p)
          · rw [if_pos z2, if_pos (by omega)]
          · rw [if_neg z2, if_neg (by omega)]
      all_goals rw [up_k (by decide), up_k (by decide)]
      all_goals assumption
    have hf := ih (i + 1) _ (by omega) (by omega) key
    rw [wX1_lay_171]
    refine ⟨by omega, by omega, fun c => absurd c (by omega), fun _ => ⟨by omega, by omega, fun h75 e75 => ⟨by omega, by omega, fun h78 e78 => ?_⟩⟩⟩
    subst e75; subst e78
    exact hf
/-- what is laid, thinned: each elder one lies under one of these, each of these is an elder one -/
def Thin (h h1 : HP) (L s y c1 : Int) (σ : ST) : Prop :=
  FrCu L h h1 ∧ Oth L s h h1 ∧ (h1 13 L s = h 13 L s ∧ h1 14 L s = h 14 L s ∧ h1 15 L s = h 15 L s ∧ h1 16 L s = h 16 L s) ∧ (0 ≤ c1 ∧ c1 ≤ 31) ∧
  (∀ i, 0 ≤ i → i < c1 → (0 ≤ h1 18 L (s * 32 + i) ∧ h1 18 L (s * 32 + i) ≤ xB) ∧ (0 ≤ h1 19 L (s * 32 + i) ∧ h1 19 L (s * 32 + i) ≤ y)) ∧
  (∀ i j, 0 ≤ i → i < j → j < c1 → h1 19 L (s * 32 + i) < h1 19 L (s * 32 + j)) ∧
  (∀ i, 0 ≤ i → i < h 17 L s → ∃ j, 0 ≤ j ∧ j < c1 ∧ ∀ n, y ≤ n → ltF σ s (h 18 L (s * 32 + i)) (h 19 L (s * 32 + i)) n ≤ ltF σ s (h1 18 L (s * 32 + j)) (h1 19 L (s * 32 + j)) n ∧ ltE σ s (h 18 L (s * 32 + i)) (h 19 L (s * 32 + i)) n ≤ ltE σ s (h1 18 L (s * 32 + j)) (h1 19 L (s * 32 + j)) n) ∧
  (∀ j, 0 ≤ j → j < c1 → ∃ i, 0 ≤ i ∧ i < h 17 L s ∧ h1 18 L (s * 32 + j) = h 18 L (s * 32 + i) ∧ h1 19 L (s * 32 + j) = h 19 L (s * 32 + i))
theorem asc_gap {Y : Int → Int} {c : Int} (h : ∀ i j, 0 ≤ i → i < j → j < c → Y i < Y j) : ∀ (d : Nat) (i : Int), 0 ≤ i → i + d < c → Y i + d ≤ Y (i + d) := by
  intro d
  induction d with
  | zero => intro i _ _; simp
  | succ d ih =>
    intro i h0 h1
    have h2 := ih i h0 (by omega)
    have h3 := h (i + d) (i + (d + 1 : Nat)) (by omega) (by omega) h1
    omega
theorem layA_flds (σ : ST) {s x y : Int} (hm : 0 < σ 11 s 0) : layA σ s x y 9 = σ 9 ∧ layA σ s x y 10 = σ 10 ∧ layA σ s x y 11 = σ 11 ∧ layA σ s x y 1 = σ 1 ∧ layA σ s x y 2 = σ 2 ∧ layA σ s x y 12 s = (fun n => max (σ 12 s n) (ltF σ s x y n)) ∧ layA σ s x y 13 s = (fun n => max (σ 13 s n) (ltE σ s x y n)) := by
  unfold layA
  rw [if_neg (by omega)]
  refine ⟨?_, ?_, ?_, ?_, ?_, ?_, ?_⟩
  · rw [upr_k (by decide), upr_k (by decide)]
  · rw [upr_k (by decide), upr_k (by decide)]
  · rw [upr_k (by decide), upr_k (by decide)]
  · rw [upr_k (by decide), upr_k (by decide)]
  · rw [upr_k (by decide), upr_k (by decide)]
  · rw [upr_k (by decide), upr_eq]; rfl
  · rw [upr_eq]; rfl
/-- one more behind what is thinned -/
theorem lay_end {h h1 h2 : HP} {L s x y c1 c2 : Int} {σ : ST} (q : CurveC h L s σ) (o : slotOK σ s) (hm : 0 < σ 11 s 0) (hx : 0 ≤ x ∧ x ≤ xB) (hy : cur σ s = y) (hy0 : 0 ≤ y) (t : Thin h h1 L s y c1 σ)
    (e13 : h2 13 L s = h1 13 L s ∧ h2 14 L s = h1 14 L s ∧ h2 15 L s = h1 15 L s ∧ h2 16 L s = h1 16 L s) (e17 : h2 17 L s = c2)
    (hc : (c2 = c1 + 1 ∧ (∀ i, 0 ≤ i → i < c1 → h1 19 L (s * 32 + i) < y ∧ h2 18 L (s * 32 + i) = h1 18 L (s * 32 + i) ∧ h2 19 L (s * 32 + i) = h1 19 L (s * 32 + i)) ∧ h2 18 L (s * 32 + c1) = x ∧ h2 19 L (s * 32 + c1) = y) ∨
      (c2 = c1 ∧ 0 < c1 ∧ h1 19 L (s * 32 + (c1 - 1)) = y ∧ (∀ i, 0 ≤ i → i < c1 - 1 → h2 18 L (s * 32 + i) = h1 18 L (s * 32 + i)) ∧ (∀ i, 0 ≤ i → i < c1 → h2 19 L (s * 32 + i) = h1 19 L (s * 32 + i)) ∧ h2 18 L (s * 32 + (c1 - 1)) = max x (h1 18 L (s * 32 + (c1 - 1))))) : CurveC h2 L s (layA σ s x y) := by
  obtain ⟨t1, t2, ⟨t31, t32, t33, t34⟩, t4, t5, t6, t7, t8⟩ := t
  obtain ⟨b1, b2, b3, b4, b5, b6⟩ := q
  obtain ⟨a1, a2, a3, a4, a5⟩ := b6
  obtain ⟨f9, f10, f11, f1, f2, f12, f13⟩ := layA_flds σ (x := x) (y := y) hm
  have w := o.1.2 hm
  unfold wellC at w
  have fc : cur (layA σ s x y) s = y := by unfold cur at *; rw [f1, f2]; exact hy
  obtain ⟨e1, e2, e3, e4⟩ := e13
  have gF : ltF (layA σ s x y) s = ltF σ s := by funext a b c; unfold ltF; rw [f9, f10, f11]
  have gE : ltE (layA σ s x y) s = ltE σ s := by funext a b c; unfold ltE; rw [f9, f10, f11]
  -- one more: general for both slopes
  have key : ∀ (g : Int → Int → Int → Int), (∀ x x' y n, x ≤ x' → g x y n ≤ g x' y n) → (∀ x y n, 0 ≤ x → 0 ≤ g x y n) → ∀ n, y ≤ n → ∀ m,
      (∀ i, 0 ≤ i → i < h 17 L s → ∃ j, 0 ≤ j ∧ j < c1 ∧ g (h 18 L (s * 32 + i)) (h 19 L (s * 32 + i)) n ≤ g (h1 18 L (s * 32 + j)) (h1 19 L (s * 32 + j)) n) →
      IsMax (h 17 L s) (fun i => g (h 18 L (s * 32 + i)) (h 19 L (s * 32 + i)) n) m → IsMax c2 (fun i => g (h2 18 L (s * 32 + i)) (h2 19 L (s * 32 + i)) n) (max m (g x y n)) := by
    intro g gx g0 n hn m hd hmx
    refine hmx.move (g0 x y n hx.1) ?_ ?_ ?_
    · intro i i0 i1
      obtain ⟨j, j0, j1, j2⟩ := hd i i0 i1
      rcases hc with ⟨c21, c22, c23, c24⟩ | ⟨c21, c22, c23, c24, c25, c26⟩
      · right
        refine ⟨j, j0, by omega, ?_⟩
        show _ ≤ g (h2 18 L (s * 32 + j)) (h2 19 L (s * 32 + j)) n
        rw [(c22 j j0 j1).2.1, (c22 j j0 j1).2.2]
        exact j2
      · right
        refine ⟨j, j0, by omega, ?_⟩
        show _ ≤ g (h2 18 L (s * 32 + j)) (h2 19 L (s * 32 + j)) n
        rw [c25 j j0 j1]
        by_cases z : j < c1 - 1
        · rw [c24 j j0 z]; exact j2
        · have : j = c1 - 1 := by omega
          subst this
          rw [c26]
          exact Int.le_trans j2 (gx _ _ _ _ (by omega))
    · intro j j0 j1
      show g (h2 18 L (s * 32 + j)) (h2 19 L (s * 32 + j)) n ≤ _ ∨ _
      rcases hc with ⟨c21, c22, c23, c24⟩ | ⟨c21, c22, c23, c24, c25, c26⟩
      · by_cases z : j < c1
        · obtain ⟨i, i0, i1, i2, i3⟩ := t8 j j0 z
          right
          refine ⟨i, i0, i1, ?_⟩
          rw [(c22 j j0 z).2.1, (c22 j j0 z).2.2, i2, i3]
          exact Int.le_refl _
        · have : j = c1 := by omega
          subst this
          left
          rw [c23, c24]
          exact Int.le_refl _
      · obtain ⟨i, i0, i1, i2, i3⟩ := t8 j j0 (by omega)
        rw [c25 j j0 (by omega)]
        by_cases z : j < c1 - 1
        · right
          refine ⟨i, i0, i1, ?_⟩
          rw [c24 j j0 z, i2, i3]
          exact Int.le_refl _
        · have : j = c1 - 1 := by omega
          subst this
          rw [c26]
          by_cases y' : x ≤ h1 18 L (s * 32 + (c1 - 1))
          · right
            refine ⟨i, i0, i1, ?_⟩
            rw [Int.max_eq_right y', i2, i3]
            exact Int.le_refl _
          · left
            rw [Int.max_eq_left (by omega), c23]
            exact Int.le_refl _
    · right
      rcases hc with ⟨c21, c22, c23, c24⟩ | ⟨c21, c22, c23, c24, c25, c26⟩
      · refine ⟨c1, by omega, by omega, ?_⟩
        show _ ≤ g (h2 18 L (s * 32 + c1)) (h2 19 L (s * 32 + c1)) n
        rw [c23, c24]
        exact Int.le_refl _
      · refine ⟨c1 - 1, by omega, by omega, ?_⟩
        show _ ≤ g (h2 18 L (s * 32 + (c1 - 1))) (h2 19 L (s * 32 + (c1 - 1))) n
        rw [c25 (c1 - 1) (by omega) (by omega), c26, c23]
        exact gx _ _ _ _ (by omega)
  have lF0 : ∀ x y n, 0 ≤ x → 0 ≤ ltF σ s x y n := fun x y n h0 => Int.le_trans h0 (reachA_x (by omega) (by omega) (by omega))
  have lE0 : ∀ x y n, 0 ≤ x → 0 ≤ ltE σ s x y n := fun x y n h0 => Int.le_trans h0 (reachA_x (by omega) (by omega) (by omega))
  unfold CurveC
  rw [f9, f10, f11, e1, e2, e3, e4, t31, t32, t33, t34]
  refine ⟨b1, b2, b3, b4, fun z => by omega, ?_⟩
  unfold LaidC
  rw [e17, fc, f12, f13, gF, gE]
  refine ⟨by omega, fun i i0 i1 => ?_, fun i j i0 i1 i2 => ?_, fun n hn => ?_, fun n hn => ?_⟩
  · rcases hc with ⟨c21, c22, c23, c24⟩ | ⟨c21, c22, c23, c24, c25, c26⟩
    · by_cases z : i < c1
      · have := t5 i i0 z
        rw [(c22 i i0 z).2.1, (c22 i i0 z).2.2]
        exact this
      · have : i = c1 := by omega
        subst this
        rw [c23, c24]
        omega
    · have := t5 i i0 (by omega)
      rw [c25 i i0 (by omega)]
      by_cases z : i < c1 - 1
      · rw [c24 i i0 z]; exact this
      · have e : i = c1 - 1 := by omega
        subst e
        rw [c26]
        omega
  · rcases hc with ⟨c21, c22, c23, c24⟩ | ⟨c21, c22, c23, c24, c25, c26⟩
    · rw [(c22 i i0 (by omega)).2.2]
      by_cases z : j < c1
      · rw [(c22 j (by omega) z).2.2]; exact t6 i j i0 i1 z
      · have : j = c1 := by omega
        subst this
        rw [c24]
        exact (c22 i i0 (by omega)).1
    · rw [c25 i i0 (by omega), c25 j (by omega) (by omega)]
      exact t6 i j i0 i1 (by omega)
  · exact key (ltF σ s) (fun _ _ _ _ hh => reachA_xle hh) lF0 n hn _ (fun i i0 i1 => by obtain ⟨j, j0, j1, j2⟩ := t7 i i0 i1; exact ⟨j, j0, j1, (j2 n hn).1⟩) (a4 n (by omega))
  · exact key (ltE σ s) (fun _ _ _ _ hh => reachA_xle hh) lE0 n hn _ (fun i i0 i1 => by obtain ⟨j, j0, j1, j2⟩ := t7 i i0 i1; exact ⟨j, j0, j1, (j2 n hn).2⟩) (a5 n (by omega))
theorem lay_tail {h h1 : HP} {L s x y c1 : Int} {σ : ST} {P : HP → Prop} (hs : 0 ≤ s ∧ s < 36) (q : CurveC h L s σ) (o : slotOK σ s) (hm : 0 < σ 11 s 0) (hx : 0 ≤ x ∧ x ≤ xB) (hy : cur σ s = y) (hy0 : 0 ≤ y ∧ y ≤ 3000) (t : Thin h h1 L s y c1 σ)
    (k : ∀ h2, FrCu L h h2 → Oth L s h h2 → CurveC h2 L s (layA σ s x y) → P h2) : wX1_lay_240 L s x y (s * 32) (s * 32 + c1) P h1 := by
  have hxB : xB = 18000000 := rfl
  have t0 := t
  obtain ⟨t1, t2, t3, t4, t5, t6, t7, t8⟩ := t0
  have c17 : cuK 17 := by unfold cuK; omega
  have c18 : cuK 18 := by unfold cuK; omega
  have c19 : cuK 19 := by unfold cuK; omega
  have add : (∀ i, 0 ≤ i → i < c1 → h1 19 L (s * 32 + i) < y) → wX1_lay_298 L s x y (s * 32) (s * 32 + c1) P h1 := by
    intro hlt
    unfold wX1_lay_298
    refine ⟨by omega, fun c => absurd c (by omega), fun _ => ⟨by omega, fun h41 e41 => ⟨by omega, fun h43 e43 => ⟨hs, fun h45 e45 => ?_⟩⟩⟩⟩
    subst e41; subst e43; subst e45
    refine k _ (((t1.tr (FrCu.up c18)).tr (FrCu.up c19)).tr (FrCu.up c17)) (((t2.tr (Oth.upX (by omega) (by omega) (by omega))).tr (Oth.upX (by omega) (by omega) (by omega))).tr (Oth.upS (by omega))) (lay_end q o hm hx hy hy0.1 t ⟨?_, ?_, ?_, ?_⟩ up_eq (Or.inl ⟨by omega, fun i i0 i1 => ⟨hlt i i0 i1, ?_, ?_⟩, ?_, ?_⟩))
    · rw [up_k (by decide), up_k (by decide), up_k (by decide)]
    · rw [up_k (by decide), up_k (by decide), up_k (by decide)]
    · rw [up_k (by decide), up_k (by decide), up_k (by decide)]
    · rw [up_k (by decide), up_k (by decide), up_k (by decide)]
    · rw [up_k (by decide), up_k (by decide), up_j (by omega)]
    · rw [up_k (by decide), up_j (by omega), up_k (by decide)]
    · rw [up_k (by decide), up_k (by decide), up_eq]
    · rw [up_k (by decide), up_eq]
  unfold wX1_lay_240
  refine ⟨by omega, by omega, fun c => add (fun i i0 i1 => by omega), fun c => ?_⟩
  have el : s * 32 + c1 - 1 = s * 32 + (c1 - 1) := by omega
  have l5 := t5 (c1 - 1) (by omega) (by omega)
  rw [el]
  refine ⟨by omega, by omega, by omega, fun c' => add (fun i i0 i1 => ?_), fun c' => ⟨by omega, ⟨by omega, by omega, fun _ => by omega⟩, fun t55 h55 => ⟨by omega, fun h57 e57 => ⟨hs, fun h59 e59 => ?_⟩⟩⟩⟩
  · by_cases z : i < c1 - 1
    · have := t6 i (c1 - 1) i0 z (by omega); omega
    · have : i = c1 - 1 := by omega
      subst this; omega
  · have e55 : t55 = max x (h1 18 L (s * 32 + (c1 - 1))) := by
      by_cases z : x ≤ h1 18 L (s * 32 + (c1 - 1))
      · rw [h55.1 z]; omega
      · rw [h55.2 z]; omega
    subst e57; subst e59
    refine k _ ((t1.tr (FrCu.up c18)).tr (FrCu.up c17)) ((t2.tr (Oth.upX (by omega) (by omega) (by omega))).tr (Oth.upS (by omega))) (lay_end q o hm hx hy hy0.1 t ⟨?_, ?_, ?_, ?_⟩ up_eq (Or.inr ⟨by omega, by omega, c', fun i i0 i1 => ?_, fun i i0 i1 => ?_, ?_⟩))
    · rw [up_k (by decide), up_k (by decide)]
    · rw [up_k (by decide), up_k (by decide)]
    · rw [up_k (by decide), up_k (by decide)]
    · rw [up_k (by decide), up_k (by decide)]
    · rw [up_k (by decide), up_j (by omega)]
    · rw [up_k (by decide), up_k (by decide)]
    · rw [up_k (by decide), up_eq, e55]
/-- what the scan found gives a thinned row -/
theorem thin_none {h : HP} {L s y p : Int} {σ : ST} (q : CurveC h L s σ) (o : slotOK σ s) (hm : 0 < σ 11 s 0) (hy : cur σ s = y) (p0 : s * 32 ≤ p) (p1 : p ≤ s * 32 + h 17 L s) (p2 : p - s * 32 ≤ 1) (p3 : p = s * 32 + h 17 L s ∨ y - h 19 L p < h 16 L s) : Thin h h L s y (h 17 L s) σ := by
  obtain ⟨b1, b2, b3, b4, b5, b6⟩ := q
  obtain ⟨hb, hasc⟩ := b6.abs
  have ht := tbend_le (o.1.2 hm)
  have h16 := b4 hm
  refine ⟨FrCu.rf L h, Oth.rf L s h, ⟨rfl, rfl, rfl, rfl⟩, ⟨b6.1.1, ?_⟩, fun i i0 i1 => ?_, fun i j i0 i1 i2 => b6.2.2.1 i j i0 i1 i2, fun i i0 i1 => ⟨i, i0, i1, fun n _ => ⟨Int.le_refl _, Int.le_refl _⟩⟩, fun j j0 j1 => ⟨j, j0, j1, rfl, rfl⟩⟩
  · by_cases z : h 17 L s ≤ 1
    · omega
    · rcases p3 with p3 | p3
      · omega
      · have g := asc_gap (Y := fun i => h 19 L (s * 32 + i)) (c := h 17 L s) b6.2.2.1 (h 17 L s - 2).toNat 1 (by omega) (by omega)
        have e1 : (1 : Int) + ((h 17 L s - 2).toNat : Nat) = h 17 L s - 1 := by omega
        rw [e1] at g
        have g2 : h 19 L p ≤ h 19 L (s * 32 + 1) := by
          by_cases z2 : p = s * 32 + 1
          · rw [z2]; exact Int.le_refl _
          · exact Int.le_of_lt (hasc p (s * 32 + 1) p0 (by omega) (by omega))
        have g3 := (hb (s * 32 + (h 17 L s - 1)) (by omega) (by omega)).2.2
        have g' : h 19 L (s * 32 + 1) + ((h 17 L s - 2).toNat : Nat) ≤ h 19 L (s * 32 + (h 17 L s - 1)) := g
        omega
  · have := b6.2.1 i i0 i1
    rw [hy] at this
    exact this
theorem thin_some {h h1 : HP} {L s y p b : Int} {σ : ST} (hs : 0 ≤ s ∧ s < 36) (q : CurveC h L s σ) (o : slotOK σ s) (hm : 0 < σ 11 s 0) (hy : cur σ s = y) (p1 : p ≤ s * 32 + h 17 L s) (p2 : ¬ p - s * 32 ≤ 1) (p3 : p = s * 32 + h 17 L s ∨ y - h 19 L p < h 16 L s)
    (q0 : s * 32 ≤ b) (q1 : b < p) (q2 : ∀ i, s * 32 ≤ i → i < p → h 16 L s ≤ y - h 19 L i ∧ h 15 L s * h 18 L i - 100 * h 19 L i ≤ h 15 L s * h 18 L b - 100 * h 19 L b)
    (z : ShH L (s * 32) p (up (up h 18 L (s * 32) (h 18 L b)) 19 L (s * 32) (h 19 L b)) h1 (s * 32 + h 17 L s)) : Thin h h1 L s y (h 17 L s - (p - s * 32 - 1)) σ := by
  obtain ⟨b1, b2, b3, b4, b5, b6⟩ := q
  have hc17 := b6.1
  obtain ⟨hb, hasc⟩ := b6.abs
  have w := o.1.2 hm
  have ht := tbend_le w
  have h16 := b4 hm
  obtain ⟨z1, z2, z3, z4, z5, z6, z7, z8⟩ := z
  have c18 : cuK 18 := by unfold cuK; omega
  have c19 : cuK 19 := by unfold cuK; omega
  have x0 : h1 18 L (s * 32 + 0) = h 18 L b ∧ h1 19 L (s * 32 + 0) = h 19 L b := by
    rw [z2, z3, if_neg (by omega), if_neg (by omega), show s * 32 + 0 = s * 32 by omega]
    refine ⟨?_, up_eq⟩
    rw [up_k (by decide), up_eq]
  have xi : ∀ i, 1 ≤ i → i < h 17 L s - (p - s * 32 - 1) → h1 18 L (s * 32 + i) = h 18 L (p + (i - 1)) ∧ h1 19 L (s * 32 + i) = h 19 L (p + (i - 1)) := by
    intro i i0 i1
    rw [z2, z3, if_pos (by omega), if_pos (by omega), show s * 32 + i - (s * 32 + 1) + p = p + (i - 1) by omega]
    refine ⟨?_, up_j (by omega) |>.trans ?_⟩
    · rw [up_k (by decide), up_j (by omega)]
    · rw [up_k (by decide)]
  have hm1 : h 15 L s = σ 11 s 0 := b3
  unfold wellC at w
  have eb := hb b q0 (by omega)
  have asc' : ∀ i j, 0 ≤ i → i < j → j < h 17 L s - (p - s * 32 - 1) → h1 19 L (s * 32 + i) < h1 19 L (s * 32 + j) := by
    intro i j i0 i1 i2
    rw [(xi j (by omega) i2).2]
    by_cases e : i = 0
    · subst e
      rw [x0.2]
      exact hasc b _ q0 (by omega) (by omega)
    · rw [(xi i (by omega) (by omega)).2]
      exact hasc _ _ (by omega) (by omega) (by omega)
  refine ⟨((FrCu.up c18).tr (FrCu.up c19)).tr z1, ?_, ⟨?_, ?_, ?_, ?_⟩, ⟨by omega, ?_⟩, fun i i0 i1 => ?_, asc', fun i i0 i1 => ?_, fun j j0 j1 => ?_⟩
  · intro t ht
    refine ⟨⟨?_, ?_, ?_, ?_, ?_⟩, fun i i0 i1 => ⟨?_, ?_⟩⟩
    · rw [z4, up_k (by decide), up_k (by decide)]
    · rw [z5, up_k (by decide), up_k (by decide)]
    · rw [z6, up_k (by decide), up_k (by decide)]
    · rw [z7, up_k (by decide), up_k (by decide)]
    · rw [z8, up_k (by decide), up_k (by decide)]
    · rw [z2, if_neg (by omega), up_k (by decide), up_j (by omega)]
    · rw [z3, if_neg (by omega), up_j (by omega), up_k (by decide)]
  · rw [z4, up_k (by decide), up_k (by decide)]
  · rw [z5, up_k (by decide), up_k (by decide)]
  · rw [z6, up_k (by decide), up_k (by decide)]
  · rw [z7, up_k (by decide), up_k (by decide)]
  · by_cases e : h 17 L s - (p - s * 32 - 1) ≤ 1
    · omega
    · have g := asc_gap (Y := fun i => h1 19 L (s * 32 + i)) (c := h 17 L s - (p - s * 32 - 1)) asc' (h 17 L s - (p - s * 32 - 1) - 2).toNat 1 (by omega) (by omega)
      have e1 : (1 : Int) + ((h 17 L s - (p - s * 32 - 1) - 2).toNat : Nat) = h 17 L s - (p - s * 32 - 1) - 1 := by omega
      rw [e1] at g
      have g' : h1 19 L (s * 32 + 1) + ((h 17 L s - (p - s * 32 - 1) - 2).toNat : Nat) ≤ h1 19 L (s * 32 + (h 17 L s - (p - s * 32 - 1) - 1)) := g
      rw [(xi 1 (by omega) (by omega)).2, (xi (h 17 L s - (p - s * 32 - 1) - 1) (by omega) (by omega)).2, show p + (1 - 1 : Int) = p by omega] at g'
      have g3 := (hb (p + (h 17 L s - (p - s * 32 - 1) - 1 - 1)) (by omega) (by omega)).2.2
      omega
  · by_cases e : i = 0
    · subst e
      rw [x0.1, x0.2]
      exact ⟨eb.1, eb.2.1, by omega⟩
    · rw [(xi i (by omega) i1).1, (xi i (by omega) i1).2]
      have := hb (p + (i - 1)) (by omega) (by omega)
      exact ⟨this.1, this.2.1, by omega⟩
  · by_cases e : s * 32 + i < p
    · refine ⟨0, by omega, by omega, fun n hn => ?_⟩
      rw [x0.1, x0.2]
      have gi := q2 (s * 32 + i) (by omega) e
      have gb := q2 b q0 q1
      rw [h16] at gi gb
      rw [hm1] at gi
      have pi := tbend_past gi.1 hn
      have pb := tbend_past gb.1 hn
      have ei := hb (s * 32 + i) (by omega) (by omega)
      refine ⟨reachA_dom (by omega) (by omega) (by omega) (by omega) (by omega) pi pb gi.2, ?_⟩
      unfold ltE
      by_cases m : σ 9 s 0 ≤ σ 11 s 0
      · rw [Int.max_eq_right m]
        exact reachA_dom (by omega) (by omega) (by omega) (by omega) (by omega) (Or.inr (Or.inl rfl)) (Or.inr (Or.inl rfl)) gi.2
      · rw [Int.max_eq_left (by omega)]
        exact reachA_dom (by omega) (by omega) (by omega) (by omega) (by omega) pi pb gi.2
    · refine ⟨s * 32 + i - p + 1, by omega, by omega, fun n hn => ?_⟩
      rw [(xi (s * 32 + i - p + 1) (by omega) (by omega)).1, (xi (s * 32 + i - p + 1) (by omega) (by omega)).2, show p + (s * 32 + i - p + 1 - 1) = s * 32 + i by omega]
      exact ⟨Int.le_refl _, Int.le_refl _⟩
  · by_cases e : j = 0
    · subst e
      refine ⟨b - s * 32, by omega, by omega, ?_, ?_⟩
      · rw [x0.1, show s * 32 + (b - s * 32) = b by omega]
      · rw [x0.2, show s * 32 + (b - s * 32) = b by omega]
    · refine ⟨p + (j - 1) - s * 32, by omega, by omega, ?_, ?_⟩
      · rw [(xi j (by omega) j1).1, show s * 32 + (p + (j - 1) - s * 32) = p + (j - 1) by omega]
      · rw [(xi j (by omega) j1).2, show s * 32 + (p + (j - 1) - s * 32) = p + (j - 1) by omega]
/-- the class lays: as a state does; with no curve nothing happens -/
theorem lay_c {h : HP} {L s x y : Int} {σ : ST} {P : HP → Prop} (hs : 0 ≤ s ∧ s < 36) (q : CurveC h L s σ) (o : slotOK σ s) (hx : 0 ≤ x ∧ x ≤ xB) (hy : cur σ s = y) (hy0 : 0 ≤ y ∧ y ≤ 3000)
    (k : ∀ h2, FrCu L h h2 → Oth L s h h2 → CurveC h2 L s (layA σ s x y) → P h2) : wX1_lay L s x y h P := by
  have b3 : h 15 L s = σ 11 s 0 := q.2.2.1
  have o1 := o.1
  have hc := q.2.2.2.2.2.1
  have hxB : xB = 18000000 := rfl
  unfold wX1_lay
  refine ⟨hs, by unfold wellC at o1; omega, fun c => ⟨hs, ?_⟩, fun c => ?_⟩
  · have hm : 0 < σ 11 s 0 := by omega
    refine ⟨_, lay_scan hs q o hm hy hy0.2 ?_ _ (s * 32) (s * 32) (Int.toNat_of_nonneg (a := s * 32 + h 17 L s - s * 32) (by omega)).symm (Int.le_refl _) (Int.le_refl _) (Or.inr ⟨rfl, rfl⟩) (fun i i0 i1 => by omega)⟩
    intro b p p0 p1 q0 q1 q2 p3
    refine ⟨by omega, fun c1 => ?_, fun c1 => ⟨by omega, by omega, fun h66 e66 => ⟨by omega, by omega, fun h69 e69 => ?_⟩⟩⟩
    · exact lay_tail hs q o hm hx hy hy0 (thin_none q o hm hy p0 p1 c1 p3) k
    · subst e66
      rw [up_k (by decide)] at e69
      subst e69
      refine ⟨_, lay_shift (h0 := up (up h 18 L (s * 32) (h 18 L b)) 19 L (s * 32) (h 19 L b)) (by omega) (by omega) (by omega) ?_ _ p _ (Int.toNat_of_nonneg (a := s * 32 + h 17 L s - p) (by omega)).symm (Int.le_refl _) ⟨FrCu.rf _ _, fun j => by rw [if_neg (by omega)], fun j => by rw [if_neg (by omega)], rfl, rfl, rfl, rfl, rfl⟩⟩
      intro h1 z
      have e : s * 32 + h 17 L s - (p - s * 32 - 1) = s * 32 + (h 17 L s - (p - s * 32 - 1)) := by omega
      rw [e]
      exact lay_tail hs q o hm hx hy hy0 (thin_some hs q o hm hy p1 c1 p3 q0 (by omega) q2 z) k
  · have e : layA σ s x y = σ := by unfold layA; rw [if_pos (by omega)]
    exact k h (FrCu.rf L h) (Oth.rf L s h) (by rw [e]; exact q)
