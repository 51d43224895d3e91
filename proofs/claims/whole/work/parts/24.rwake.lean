/-! the reference: laying ends; active; waking -/
theorem lay_finR {r r' cp cp' : Int → Int} {c k x y m best mm : Int} {σ : ST} (q : CurveR r c k σ) (o : slotOK σ (3 * c + k)) (hm : 0 < σ 11 (3 * c + k) 0) (hx : 0 ≤ x ∧ x ≤ xB) (hy : cur σ (3 * c + k) = y) (hy0 : 0 ≤ y)
    (hx2 : ∀ i, 0 ≤ i → i < r (257 * c + 38 + 73 * k) → r (257 * c + 38 + 73 * k + 2 + 2 * i) = y → r (257 * c + 38 + 73 * k + 1 + 2 * i) ≤ x) (hxt : (3 * c + k) % 3 ≠ 1 → x ≤ σ 0 0 0)
    (g : SeenR r cp (257 * c + 38 + 73 * k) (3 * c + k) y m best (r (257 * c + 38 + 73 * k)) σ)
    (e0 : ∀ j, 0 ≤ j → j < m → cp' (2 * j) = cp (2 * j) ∧ cp' (2 * j + 1) = cp (2 * j + 1))
    (e1 : best ≠ -1 → mm = m + 2 ∧ cp' (2 * m) = r (257 * c + 38 + 73 * k + 1 + 2 * best) ∧ cp' (2 * m + 1) = r (257 * c + 38 + 73 * k + 2 + 2 * best)) (e2 : best = -1 → mm = m + 1)
    (e3 : cp' (2 * (mm - 1)) = x ∧ cp' (2 * (mm - 1) + 1) = y)
    (e4 : r' (257 * c + 38 + 73 * k) = mm) (e5 : ∀ j, 0 ≤ j → j < 2 * mm → r' (257 * c + 38 + 73 * k + 1 + j) = cp' j) (e6 : ∀ j, ¬ (257 * c + 38 + 73 * k ≤ j ∧ j ≤ 257 * c + 38 + 73 * k + 72) → r' j = r j) (hk : 0 ≤ k ∧ k ≤ 2) : CurveR r' c k (layA σ (3 * c + k) x y) := by
  obtain ⟨b1, b2, b3, a1, a2, a3, a4, a5, a6⟩ := q
  obtain ⟨g1, g2, g3, g4, g5⟩ := g
  obtain ⟨f9, f10, f11, f1, f2, f12, f13⟩ := layA_flds σ (s := 3 * c + k) (x := x) (y := y) hm
  have w := o.1.2 hm
  have wm := wellC_mul w
  unfold wellC at w
  have fc : cur (layA σ (3 * c + k) x y) (3 * c + k) = y := by rw [cur_eq f1 f2]; exact hy
  have f0 : layA σ (3 * c + k) x y 0 = σ 0 := layA_k (by decide) (by decide)
  have gF : ltF (layA σ (3 * c + k) x y) (3 * c + k) = ltF σ (3 * c + k) := by funext a b d; unfold ltF; rw [f9, f10, f11]
  have gE : ltE (layA σ (3 * c + k) x y) (3 * c + k) = ltE σ (3 * c + k) := by funext a b d; unfold ltE; rw [f9, f10, f11]
  have mmr : 1 ≤ mm ∧ mm ≤ 32 := by
    by_cases z : best = -1
    · have := e2 z; omega
    · have := (e1 z).1; omega
  have X' : ∀ j, 0 ≤ j → j < mm → r' (257 * c + 38 + 73 * k + 1 + 2 * j) = cp' (2 * j) ∧ r' (257 * c + 38 + 73 * k + 2 + 2 * j) = cp' (2 * j + 1) := by
    intro j j0 j1
    have h1 := e5 (2 * j) (by omega) (by omega)
    have h2 := e5 (2 * j + 1) (by omega) (by omega)
    rw [show 257 * c + 38 + 73 * k + 1 + (2 * j + 1) = 257 * c + 38 + 73 * k + 2 + 2 * j by omega] at h2
    exact ⟨h1, h2⟩
  -- what stands where
  have kind : ∀ j, 0 ≤ j → j < mm → j < m ∨ (best ≠ -1 ∧ j = m) ∨ j = mm - 1 := by
    intro j j0 j1
    by_cases z : best = -1
    · have := e2 z; omega
    · have := (e1 z).1; omega
  have key : ∀ (g : Int → Int → Int → Int), (∀ x x' y n, x ≤ x' → g x y n ≤ g x' y n) → (∀ x y n, 0 ≤ x → 0 ≤ g x y n) → ∀ n, y ≤ n → ∀ v,
      (∀ i i', 0 ≤ i → i < r (257 * c + 38 + 73 * k) → 0 ≤ i' → i' < r (257 * c + 38 + 73 * k) → BehR σ (3 * c + k) y (r (257 * c + 38 + 73 * k + 2 + 2 * i)) → BehR σ (3 * c + k) y (r (257 * c + 38 + 73 * k + 2 + 2 * i')) → σ 11 (3 * c + k) 0 * r (257 * c + 38 + 73 * k + 1 + 2 * i) - 100 * r (257 * c + 38 + 73 * k + 2 + 2 * i) ≤ σ 11 (3 * c + k) 0 * r (257 * c + 38 + 73 * k + 1 + 2 * i') - 100 * r (257 * c + 38 + 73 * k + 2 + 2 * i') → g (r (257 * c + 38 + 73 * k + 1 + 2 * i)) (r (257 * c + 38 + 73 * k + 2 + 2 * i)) n ≤ g (r (257 * c + 38 + 73 * k + 1 + 2 * i')) (r (257 * c + 38 + 73 * k + 2 + 2 * i')) n) →
      IsMax (r (257 * c + 38 + 73 * k)) (fun i => g (r (257 * c + 38 + 73 * k + 1 + 2 * i)) (r (257 * c + 38 + 73 * k + 2 + 2 * i)) n) v → IsMax mm (fun j => g (r' (257 * c + 38 + 73 * k + 1 + 2 * j)) (r' (257 * c + 38 + 73 * k + 2 + 2 * j)) n) (max v (g x y n)) := by
    intro g gx g0 n hn v hd hv
    refine hv.move (g0 x y n hx.1) ?_ ?_ ?_
    · intro i i0 i1
      show g (r (257 * c + 38 + 73 * k + 1 + 2 * i)) (r (257 * c + 38 + 73 * k + 2 + 2 * i)) n ≤ _ ∨ ∃ j, 0 ≤ j ∧ j < mm ∧ g (r (257 * c + 38 + 73 * k + 1 + 2 * i)) (r (257 * c + 38 + 73 * k + 2 + 2 * i)) n ≤ g (r' (257 * c + 38 + 73 * k + 1 + 2 * j)) (r' (257 * c + 38 + 73 * k + 2 + 2 * j)) n
      by_cases z : BehR σ (3 * c + k) y (r (257 * c + 38 + 73 * k + 2 + 2 * i))
      · obtain ⟨u1, u2⟩ := (g5 i i0 i1).1 z
        obtain ⟨p1, p2, p3⟩ := e1 u1
        right
        refine ⟨m, by omega, by omega, ?_⟩
        rw [(X' m (by omega) (by omega)).1, (X' m (by omega) (by omega)).2, p2, p3]
        rcases g2 with v | v
        · exact absurd v u1
        · exact hd i best i0 i1 v.1 v.2.1 z v.2.2 u2
      · rcases (g5 i i0 i1).2 z with u | ⟨j, j0, j1, j2, j3⟩
        · left
          rw [u]
          exact gx _ _ _ _ (hx2 i i0 i1 u)
        · right
          refine ⟨j, j0, by omega, ?_⟩
          rw [(X' j j0 (by omega)).1, (X' j j0 (by omega)).2, (e0 j j0 j1).1, (e0 j j0 j1).2, j2, j3]
          exact Int.le_refl _
    · intro j j0 j1
      show g (r' (257 * c + 38 + 73 * k + 1 + 2 * j)) (r' (257 * c + 38 + 73 * k + 2 + 2 * j)) n ≤ _ ∨ ∃ i, 0 ≤ i ∧ i < r (257 * c + 38 + 73 * k) ∧ g (r' (257 * c + 38 + 73 * k + 1 + 2 * j)) (r' (257 * c + 38 + 73 * k + 2 + 2 * j)) n ≤ g (r (257 * c + 38 + 73 * k + 1 + 2 * i)) (r (257 * c + 38 + 73 * k + 2 + 2 * i)) n
      rw [(X' j j0 j1).1, (X' j j0 j1).2]
      rcases kind j j0 j1 with z | ⟨z, z2⟩ | z
      · obtain ⟨-, -, i', i0, i1, i2, i3, i4⟩ := g3 j j0 z
        right
        refine ⟨i', i0, i1, ?_⟩
        rw [(e0 j j0 z).1, (e0 j j0 z).2, i3, i4]
        exact Int.le_refl _
      · obtain ⟨p1, p2, p3⟩ := e1 z
        subst z2
        right
        rcases g2 with v | v
        · exact absurd v z
        · refine ⟨best, v.1, v.2.1, ?_⟩
          rw [p2, p3]
          exact Int.le_refl _
      · left
        rw [z, e3.1, e3.2]
        exact Int.le_refl _
    · right
      refine ⟨mm - 1, by omega, by omega, ?_⟩
      show _ ≤ g (r' (257 * c + 38 + 73 * k + 1 + 2 * (mm - 1))) (r' (257 * c + 38 + 73 * k + 2 + 2 * (mm - 1))) n
      rw [(X' (mm - 1) (by omega) (by omega)).1, (X' (mm - 1) (by omega) (by omega)).2, e3.1, e3.2]
      exact Int.le_refl _
  have lF0 : ∀ x y n, 0 ≤ x → 0 ≤ ltF σ (3 * c + k) x y n := fun x y n h0 => Int.le_trans h0 (reachA_x (by omega) (by omega) (by omega))
  have lE0 : ∀ x y n, 0 ≤ x → 0 ≤ ltE σ (3 * c + k) x y n := fun x y n h0 => Int.le_trans h0 (reachA_x (by omega) (by omega) (by omega))
  have bf : ∀ Y n, BehR σ (3 * c + k) y Y → y ≤ n → Y ≤ y → σ 10 (3 * c + k) 0 = 0 ∨ σ 9 (3 * c + k) 0 = σ 11 (3 * c + k) 0 ∨ (Y < n ∧ σ 9 (3 * c + k) 0 * σ 10 (3 * c + k) 0 ≤ 100 * (n - Y)) := by
    intro Y n hb hn hY
    unfold BehR at hb
    exact Or.inr (Or.inr (by omega))
  unfold CurveR
  rw [f9, f10, f11]
  refine ⟨by rw [e6 _ (by omega)]; exact b1, fun z => ?_, fun z => by omega, ?_⟩
  · rw [e6 _ (by omega), e6 _ (by omega), e6 _ (by omega)]; exact b2 z
  · unfold LaidR
    rw [e4, fc, f9, f10, f12, f13, gF, gE, f0]
    refine ⟨by omega, fun j j0 j1 => ?_, fun i j i0 i1 i2 h1 h2 => ?_, fun n hn => ?_, fun n hn => ?_, fun h3 j j0 j1 => ?_⟩
    · rw [(X' j j0 j1).1, (X' j j0 j1).2]
      rcases kind j j0 j1 with z | ⟨z, z2⟩ | z
      · obtain ⟨p1, -, i', i0, i1, i2, i3, i4⟩ := g3 j j0 z
        have := a2 i' i0 i1
        rw [(e0 j j0 z).1, (e0 j j0 z).2, i3, i4]
        omega
      · obtain ⟨p1, p2, p3⟩ := e1 z
        rcases g2 with v | v
        · exact absurd v z
        · have := a2 best v.1 v.2.1
          rw [z2, p2, p3]
          omega
      · rw [z, e3.1, e3.2]; omega
    · rw [(X' i i0 (by omega)).2] at h1 ⊢
      rw [(X' j (by omega) i2).2] at h2 ⊢
      rcases kind i i0 (by omega) with z | ⟨z, z2⟩ | z
      · rcases kind j (by omega) i2 with u | ⟨u, u2⟩ | u
        · rw [(e0 i i0 z).2, (e0 j (by omega) u).2]; exact g4 i j i0 i1 u
        · obtain ⟨p1, p2, p3⟩ := e1 u
          rw [u2, p3] at h2
          rcases g2 with v | v
          · exact absurd v u
          · exact absurd h2 v.2.2
        · rw [(e0 i i0 z).2, u, e3.2]; exact (g3 i i0 z).1
      · obtain ⟨p1, p2, p3⟩ := e1 z
        rw [z2, p3] at h1
        rcases g2 with v | v
        · exact absurd v z
        · exact absurd h1 v.2.2
      · omega
    · exact key (ltF σ (3 * c + k)) (fun _ _ _ _ hh => reachA_xle hh) lF0 n hn _ (fun i i' i0 i1 i2 i3 h1 h2 ht => reachA_dom (by omega) (by omega) (by omega) (by have := a2 i i0 i1; omega) (by have := a2 i' i2 i3; omega) (bf _ n h1 hn (by have := a2 i i0 i1; omega)) (bf _ n h2 hn (by have := a2 i' i2 i3; omega)) ht) (a4 n (by omega))
    · refine key (ltE σ (3 * c + k)) (fun _ _ _ _ hh => reachA_xle hh) lE0 n hn _ (fun i i' i0 i1 i2 i3 h1 h2 ht => ?_) (a5 n (by omega))
      unfold ltE
      by_cases u : σ 9 (3 * c + k) 0 ≤ σ 11 (3 * c + k) 0
      · rw [Int.max_eq_right u]
        exact reachA_dom (by omega) (by omega) (by omega) (by have := a2 i i0 i1; omega) (by have := a2 i' i2 i3; omega) (Or.inr (Or.inl rfl)) (Or.inr (Or.inl rfl)) ht
      · rw [Int.max_eq_left (by omega)]
        exact reachA_dom (by omega) (by omega) (by omega) (by have := a2 i i0 i1; omega) (by have := a2 i' i2 i3; omega) (bf _ n h1 hn (by have := a2 i i0 i1; omega)) (bf _ n h2 hn (by have := a2 i' i2 i3; omega)) ht
    · rw [(X' j j0 j1).1]
      rcases kind j j0 j1 with z | ⟨z, z2⟩ | z
      · obtain ⟨p1, -, i', i0, i1, i2, i3, i4⟩ := g3 j j0 z
        rw [(e0 j j0 z).1, i3]
        exact a6 h3 i' i0 i1
      · obtain ⟨p1, p2, p3⟩ := e1 z
        rcases g2 with v | v
        · exact absurd v z
        · rw [z2, p2]; exact a6 h3 best v.1 v.2.1
      · rw [z, e3.1]; exact hxt h3
def Fr5659 (h h' : HP) : Prop := ∀ k, k ≠ 56 → k ≠ 59 → h' k = h k
theorem lay_r {h : HP} {c k x y : Int} {π : PL} {σ : ST} {P : HP → Prop} (hc : 0 ≤ c ∧ c < 12) (hk : 0 ≤ k ∧ k ≤ 2) (q : CurveR (h 56 7) c k σ) (o : slotOK σ (3 * c + k)) (hm : 0 < σ 11 (3 * c + k) 0) (hx : 0 ≤ x ∧ x ≤ xB) (hy : cur σ (3 * c + k) = y) (hy0 : 0 ≤ y ∧ y ≤ 3000)
    (ey : h 56 7 (257 * c + (if k = 0 then 13 else 12)) = y) (hx2 : ∀ i, 0 ≤ i → i < h 56 7 (257 * c + 38 + 73 * k) → h 56 7 (257 * c + 38 + 73 * k + 2 + 2 * i) = y → h 56 7 (257 * c + 38 + 73 * k + 1 + 2 * i) ≤ x) (hxt : (3 * c + k) % 3 ≠ 1 → x ≤ σ 0 0 0)
    (kk : ∀ h', Fr5659 h h' → (∀ j, ¬ (257 * c + 38 + 73 * k ≤ j ∧ j ≤ 257 * c + 38 + 73 * k + 72) → h' 56 7 j = h 56 7 j) → CurveR (h' 56 7) c k (layA σ (3 * c + k) x y) → P h') : wX12_lay 7 c k x h P := by
  have b := q.2.2.2.1
  unfold wX12_lay wX12_curveAt wX12_laidAt
  refine ⟨by omega, fun t2 h2 => ?_⟩
  have e2 : t2 = if k = 0 then 13 else 12 := by
    by_cases z : k = 0
    · rw [if_pos z]; exact h2.2 z
    · rw [if_neg z]; exact h2.1 z
  have e2r : 12 ≤ t2 ∧ t2 ≤ 13 := by rw [e2]; split <;> omega
  rw [← e2] at ey
  dsimp only
  rw [ey]
  refine ⟨by omega, _, lay_scanR hc hk q o hm hy hy0 (fun m best h1 f1 g => ?_) (h 56 7 (257 * c + 38 + 73 * k)).toNat 0 (-1) 0 h (by omega) (Int.le_refl _) (fun _ _ => rfl) ⟨by omega, Or.inl rfl, fun j j0 j1 => by omega, fun j j' j0 j1 j2 => by omega, fun i' i0 i1 => by omega⟩⟩
  have e56 : h1 56 = h 56 := f1 56 (by decide)
  have gg1 := g.1
  have gg2 := g.2.1
  -- the end: l places filled, x and y behind
  have fin : ∀ (l : Int) (h3 : HP), 0 ≤ l → l ≤ 31 → Fr59 h1 h3 → (∀ j, 0 ≤ j → j < m → h3 59 7 (2 * j) = h1 59 7 (2 * j) ∧ h3 59 7 (2 * j + 1) = h1 59 7 (2 * j + 1)) → (best ≠ -1 → l = m + 1 ∧ h3 59 7 (2 * m) = h 56 7 (257 * c + 38 + 73 * k + 1 + 2 * best) ∧ h3 59 7 (2 * m + 1) = h 56 7 (257 * c + 38 + 73 * k + 2 + 2 * best)) → (best = -1 → l = m) →
      wX12_lay_306 7 c k x y (257 * c + 38 + 73 * k) l P h3 := by
    intro l h3 l0 l1 f3 q0 q1 q2
    unfold wX12_lay_306
    refine ⟨by omega, fun h52 e52 => ⟨by omega, fun h54 e54 => ⟨by omega, fun h56 eh56 => ⟨(2 * (l + 1)).toNat + 1, ?_⟩⟩⟩⟩
    have cp : ∀ j, h54 59 7 j = if j = 2 * l + 1 then y else if j = 2 * l then x else h3 59 7 j := fun j => by rw [e54, up_ji, e52, up_ji]
    have cq : h56 59 = h54 59 := by rw [eh56, up_k (by decide)]
    have r56 : ∀ j, h56 56 7 j = if j = 257 * c + 38 + 73 * k then l + 1 else h 56 7 j := fun j => by rw [eh56, up_ji, e54, up_k (by decide), e52, up_k (by decide), f3 56 (by decide), e56]
    have loop : ∀ (d : Nat) (i : Int) (h' : HP), 2 * (l + 1) - i = d → 0 ≤ i → (∀ k', k' ≠ 56 → h' k' = h56 k') → (∀ j, h' 56 7 j = if 257 * c + 38 + 73 * k + 1 ≤ j ∧ j < 257 * c + 38 + 73 * k + 1 + i then h54 59 7 (j - (257 * c + 38 + 73 * k + 1)) else h56 56 7 j) → wX12_lay_344 7 c k x (257 * c + 38 + 73 * k) (l + 1) (fun h65 => P h65) (d + 1) i h' := by
      intro d
      induction d with
      | zero =>
        intro i h' hd hi f' g'
        have ei : i = 2 * (l + 1) := by omega
        subst ei
        rw [wX12_lay_344]
        refine ⟨by omega, by omega, fun _ => ?_, fun z => absurd (Int.le_refl _) z⟩
        refine kk h' (fun k' h1' h2' => ?_) (fun j hj => ?_) ?_
        · rw [f' k' h1', eh56, up_k h1', e54, up_k h2', e52, up_k h2', f3 k' h2', f1 k' h2']
        · rw [g' j, if_neg (by omega), r56, if_neg (by omega)]
        · refine lay_finR (cp := h1 59 7) (cp' := h54 59 7) (m := m) (best := best) (mm := l + 1) (r := h 56 7) q o hm hx hy hy0.1 hx2 hxt g (fun j j0 j1 => ?_) (fun z => ?_) (fun z => by have := q2 z; omega) ?_ ?_ (fun j j0 j1 => ?_) (fun j hj => ?_) hk
          · have lm : m ≤ l := by
              by_cases z : best = -1
              · have := q2 z; omega
              · have := (q1 z).1; omega
            rw [cp, cp, if_neg (by omega), if_neg (by omega), if_neg (by omega), if_neg (by omega)]
            exact q0 j j0 j1
          · obtain ⟨p1, p2, p3⟩ := q1 z
            rw [cp, cp, if_neg (by omega), if_neg (by omega), if_neg (by omega), if_neg (by omega)]
            exact ⟨by omega, p2, p3⟩
          · rw [show l + 1 - 1 = l by omega, cp, cp, if_neg (by omega), if_pos rfl, if_pos rfl]
            exact ⟨rfl, rfl⟩
          · rw [g', if_neg (by omega), r56, if_pos rfl]
          · rw [g', if_pos (by omega)]
            congr 1
            omega
          · rw [g' j, if_neg (by omega), r56, if_neg (by omega)]
      | succ d ih =>
        intro i h' hd hi f' g'
        rw [wX12_lay_344]
        refine ⟨by omega, by omega, fun z => absurd z (by omega), fun _ => ⟨by omega, by omega, fun h62 e62 => ?_⟩⟩
        have c59 : h' 59 = h54 59 := by rw [f' 59 (by decide), cq]
        rw [c59] at e62
        refine ih (i + 1) h62 (by omega) (by omega) (fun k' hk' => by rw [e62, up_k hk', f' k' hk']) (fun j => ?_)
        rw [e62, up_ji]
        by_cases z : j = 257 * c + 38 + 73 * k + 1 + i
        · rw [if_pos z, if_pos (by omega)]
          congr 1
          omega
        · rw [if_neg z, g' j]
          by_cases z2 : 257 * c + 38 + 73 * k + 1 ≤ j ∧ j < 257 * c + 38 + 73 * k + 1 + i
          · rw [if_pos z2, if_pos (by omega)]
          · rw [if_neg z2, if_neg (by omega)]
    exact loop (2 * (l + 1)).toNat 0 h56 (by omega) (Int.le_refl _) (fun _ _ => rfl) (fun j => by rw [if_neg (by omega)])
  refine ⟨by rcases gg2 with v | v <;> omega, fun z => ?_, fun z => ?_⟩
  · exact fin m h1 (by omega) (by omega) (fun _ _ => rfl) (fun j _ _ => ⟨rfl, rfl⟩) (fun z2 => absurd z z2) (fun _ => rfl)
  · have hb : 0 ≤ best ∧ best < h 56 7 (257 * c + 38 + 73 * k) := by rcases gg2 with v | v <;> omega
    refine ⟨by omega, by omega, fun h67 e67 => ⟨by omega, by omega, fun h70 e70 => ?_⟩⟩
    rw [e56] at e67
    have e67' : h67 56 = h 56 := by rw [e67, up_k (by decide), e56]
    rw [e67'] at e70
    have cp : ∀ j, h70 59 7 j = if j = 2 * m + 1 then h 56 7 (257 * c + 38 + 73 * k + 2 + 2 * best) else if j = 2 * m then h 56 7 (257 * c + 38 + 73 * k + 1 + 2 * best) else h1 59 7 j := fun j => by rw [e70, up_ji, e67, up_ji]
    refine fin (m + 1) h70 (by omega) (by omega) (fun k' hk' => by rw [e70, up_k hk', e67, up_k hk']) (fun j j0 j1 => ?_) (fun _ => ?_) (fun z2 => absurd z2 z)
    · rw [cp, cp, if_neg (by omega), if_neg (by omega), if_neg (by omega), if_neg (by omega)]
      exact ⟨rfl, rfl⟩
    · rw [cp, cp, if_neg (by omega), if_pos rfl, if_pos rfl]
      exact ⟨rfl, rfl, rfl⟩
