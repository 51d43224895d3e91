/-! the text: the reference, clause by clause -/
theorem RcR.beyond {h0 h : HP} {T : Int → Int} {n m j v : Int} {k : Nat} {t : TK} {δ : PL} (q : RcR h0 h T n t δ m (-1)) (hk : (k = 50 ∧ 12 + δ 0 0 ≤ j) ∨ ((51 ≤ k ∧ k ≤ 54) ∧ 8 + δ 0 1 ≤ j) ∨ (k = 55 ∧ 12 * (12 + δ 0 0) ≤ j)) : RcR h0 (up h k 7 j v) T n t δ m (-1) := by
  obtain ⟨⟨x, tk, o⟩, b, ⟨d1, d2, d3, d4⟩, dk, fx⟩ := q
  have n0 := dk.1.1.1
  have f0 := dk.1.2.1
  refine ⟨⟨x.cg (up_k (by omega)) (up_k (by omega)), tk.cg (up_k (by omega)), o⟩, by rw [up_k (by omega)]; exact b, ⟨by rw [up_k (by omega)]; exact d1, fun c c0 c1 => ?_, fun f f0' f1 => ?_, fun c' k' a0 a1 b0 b1 ne => ?_⟩, dk, fx.u1 (by omega)⟩
  · rw [up_kj (by omega)]; exact d2 c c0 c1
  · rw [up_kj (by omega), up_kj (by omega), up_kj (by omega), up_kj (by omega)]; exact d3 f f0' f1
  · have := d4 c' k' a0 a1 b0 b1 ne
    unfold CvR at *
    rw [up_kj (by omega), up_kj (by omega), up_kj (by omega), up_kj (by omega)]; exact this
theorem RcR.cnt2 {h0 h : HP} {T : Int → Int} {n m m' : Int} {t : TK} {δ : PL} (q : RcR h0 h T n t δ m (-1)) : RcR h0 (up h 49 7 2 m') T n t δ m' (-1) := by
  obtain ⟨⟨x, tk, o⟩, b, ⟨d1, d2, d3, d4⟩, dk, fx⟩ := q
  refine ⟨⟨x.cg (up_k (by decide)) (up_k (by decide)), tk.cg (up_k (by decide)), o⟩, by rw [up_k (by decide)]; exact b, ⟨⟨up_eq, by rw [up_j (by decide)]; exact d1.2⟩, by rw [up_k (by decide)]; exact d2, by rw [up_k (by decide), up_k (by decide), up_k (by decide), up_k (by decide)]; exact d3, fun c' k' a0 a1 b0 b1 ne => ?_⟩, dk, fx.u1 (by omega)⟩
  have := d4 c' k' a0 a1 b0 b1 ne
  unfold CvR at *
  rw [up_k (by decide)]; exact this
theorem curves_st {h0 h : HP} {c y p : Int} {P : HP → Prop} (s : StR h0 h y p) (k : P h) : wX12_readCurves 7 c h P := by
  unfold wX12_readCurves
  refine which_st s ⟨1, ?_⟩
  rw [wX12_readCurves_20]
  exact ⟨by omega, fun _ => k, fun u => absurd rfl u⟩
theorem class_st {h0 h : HP} {c l y p : Int} {P : HP → Prop} (s : StR h0 h y p) (c0 : 0 ≤ c ∧ c < 12) (k : ∀ h', StR h0 h' y p → P h') : wX12_readClass_169 7 c l P h := by
  have := s.2.1
  unfold wX12_readClass_169
  rw [s.1]
  refine ⟨by omega, fun _ => ?_, fun u => by omega⟩
  unfold wX12_readClass_180
  refine ⟨by omega, fun h37 e37 => ?_⟩
  have s37 : StR h0 h37 y p := by rw [e37]; exact s.u1 (by omega)
  unfold wX12_readClass_190
  exact curves_st s37 (fun h29 e29 => k h29 (by rw [e29]; exact s37.u1 (by omega)))
theorem newFlow_b {h0 h : HP} {T : Int → Int} {n m i : Int} {t : TK} {δ : PL} {P : Int → HP → Prop} (q : RcR h0 h T n t δ m (-1)) (hi : 0 ≤ i ∧ i ≤ 11) (k : ∀ y, (y = 0 ∨ y = 1) → (y = 0 ↔ ∀ f, 0 ≤ f → f < δ 0 1 → δ 2 f ≠ i) → P y h) : wX12_hasNewFlow 7 i h P := by
  obtain ⟨-, -, ⟨d1, d2, d3, d4⟩, dk, -⟩ := q
  have n8 := dk.1.2.1
  unfold wX12_hasNewFlow
  have loop : ∀ (d : Nat) (j : Int), (δ 0 1 - j).toNat = d → 0 ≤ j → j ≤ δ 0 1 → (∀ f, 0 ≤ f → f < j → δ 2 f ≠ i) → wX12_hasNewFlow_2 7 i h (P 0 h) (P 1 h) (d + 1) j := by
    intro d
    induction d with
    | zero =>
      intro j hd j0 j1 g
      rw [wX12_hasNewFlow_2, d1.2]
      exact ⟨by omega, by omega, fun _ => k 0 (Or.inl rfl) ⟨fun _ f f0 f1 => g f f0 (by omega), fun _ => rfl⟩, fun u => absurd (by omega) u⟩
    | succ d ih =>
      intro j hd j0 j1 g
      have r := (dk.1.2.2 j j0 (by omega)).1.1
      have r12 := dk.1.1.2.1
      rw [wX12_hasNewFlow_2, d1.2, (d3 j j0 (by omega)).1]
      refine ⟨by omega, by omega, fun u => absurd u (by omega), fun _ => ⟨by omega, by omega, by omega, fun u => ih (j + 1) (by omega) (by omega) (by omega) (fun f f0 f1 => ?_), fun u => k 1 (Or.inr rfl) ⟨fun v => by omega, fun v => absurd u (v j j0 (by omega))⟩⟩⟩
      by_cases w : f = j
      · rw [w]; exact u
      · exact g f f0 (by omega)
  exact ⟨_, loop _ 0 rfl (by omega) (by omega) (fun f f0 f1 => by omega)⟩
theorem newLeaf_b {h0 h : HP} {T : Int → Int} {n i : Int} {t : TK} {δ : PL} {P : Int → HP → Prop} (q : RcR h0 h T n t δ (δ 0 0) (-1)) (hi : 0 ≤ i ∧ i ≤ 11) (k : ∀ y, (y = 0 ∨ y = 1) → (y = 1 ↔ kids δ i = 0) → P y h) : wX12_isNewLeaf 7 i h P := by
  obtain ⟨-, -, ⟨d1, d2, d3, d4⟩, dk, -⟩ := q
  have n12 := dk.1.1.2.1
  have n0 := dk.1.1.1
  have kp : 0 ≤ kidN δ i (δ 0 0).toNat := (kidN_pos (π := δ) (c := i) (δ 0 0).toNat).1
  have kq := (kidN_pos (π := δ) (c := i) (δ 0 0).toNat).2.2
  have ek : kids δ i = kidN δ i (δ 0 0).toNat := rfl
  unfold wX12_isNewLeaf
  have loop : ∀ (d : Nat) (j : Int), (δ 0 0 - j).toNat = d → 0 ≤ j → j ≤ δ 0 0 → (∀ c, 0 ≤ c → c < j → δ 1 c ≠ i) → wX12_isNewLeaf_2 7 i (fun h11 => P 1 h11) (fun h12 => P 0 h12) (d + 1) j h := by
    intro d
    induction d with
    | zero =>
      intro j hd j0 j1 g
      rw [wX12_isNewLeaf_2]
      unfold wX12_newClasses
      rw [d1.1]
      refine ⟨by omega, by omega, fun _ => k 1 (Or.inr rfl) ⟨fun _ => ?_, fun _ => rfl⟩, fun u => absurd (by omega) u⟩
      by_cases w : 0 < kidN δ i (δ 0 0).toNat
      · obtain ⟨x, x1, x2⟩ := kq.mp w
        exact absurd x2 (g x (by omega) (by omega))
      · omega
    | succ d ih =>
      intro j hd j0 j1 g
      have pr := dk.1.1.2.2 j j0 (by omega)
      rw [wX12_isNewLeaf_2]
      unfold wX12_newClasses
      rw [d1.1]
      dsimp only
      rw [d2 j j0 (by omega)]
      have er : rc (δ 1 j) = i ↔ δ 1 j = i := by unfold rc; split <;> omega
      have rr : -1 ≤ rc (δ 1 j) ∧ rc (δ 1 j) ≤ 12 := by unfold rc; split <;> omega
      refine ⟨by omega, by omega, fun u => absurd u (by omega), fun _ => ⟨by omega, by omega, by omega, fun u => ih (j + 1) (by omega) (by omega) (by omega) (fun c c0 c1 => ?_), fun u => k 0 (Or.inl rfl) ⟨fun v => by omega, fun v => ?_⟩⟩⟩
      · by_cases w : c = j
        · rw [w]; exact fun z => u (er.mpr z)
        · exact g c c0 (by omega)
      · have ej : ((j.toNat : Nat) : Int) = j := by omega
        have := kq.mpr ⟨j.toNat, by omega, by rw [ej]; exact er.mp u⟩
        omega
  exact ⟨_, loop _ 0 rfl (by omega) (by omega) (fun f f0 f1 => by omega)⟩
theorem clear12_b {h : HP} {c : Int} {Ko : HP → Prop} (c0 : 0 ≤ c ∧ c < 12) (k : ∀ h', (∀ k i, ¬ (k = 55 ∧ i = 7) → h' k i = h k i) → (∀ j, ¬ (12 * (12 + c) ≤ j ∧ j < 12 * (12 + c) + 12) → h' 55 7 j = h 55 7 j) → (∀ j, 0 ≤ j → j < 12 → h' 55 7 (12 * (12 + c) + j) = 0) → Ko h') : ∃ g, wX12_readClass_43 7 c Ko g 0 h := by
  have loop : ∀ (d : Nat) (i : Int) (hh : HP), (12 - i).toNat = d → 0 ≤ i → i ≤ 12 → (∀ k i, ¬ (k = 55 ∧ i = 7) → hh k i = h k i) → (∀ j, ¬ (12 * (12 + c) ≤ j ∧ j < 12 * (12 + c) + 12) → hh 55 7 j = h 55 7 j) → (∀ j, 0 ≤ j → j < i → hh 55 7 (12 * (12 + c) + j) = 0) → wX12_readClass_43 7 c Ko (d + 1) i hh := by
    intro d
    induction d with
    | zero =>
      intro i hh hd i0 i1 f g z
      rw [wX12_readClass_43]
      exact ⟨by omega, fun _ => k hh f g (fun j j0 j1 => z j j0 (by omega)), fun u => absurd (by omega) u⟩
    | succ d ih =>
      intro i hh hd i0 i1 f g z
      rw [wX12_readClass_43]
      refine ⟨by omega, fun u => absurd u (by omega), fun _ => ⟨by omega, fun h14 e14 => ih (i + 1) h14 (by omega) (by omega) (by omega) (fun k' i' hn => by rw [e14, up_x hn]; exact f k' i' hn) (fun j hj => by rw [e14, up_j (by omega)]; exact g j hj) (fun j j0 j1 => ?_)⟩⟩
      rw [e14, up_ji]
      by_cases w : j = i
      · rw [if_pos (by omega)]
      · rw [if_neg (by omega)]; exact z j j0 (by omega)
  exact ⟨_, loop _ 0 h rfl (by omega) (by omega) (fun _ _ _ => rfl) (fun _ _ => rfl) (fun j j0 j1 => by omega)⟩
def NwR (h : HP) (c : Int) : Prop := h 55 7 (12 * (12 + c)) = 0 ∧ h 55 7 (12 * (12 + c) + 4) = 1 ∧ h 55 7 (12 * (12 + c) + 5) = 10 ∧ h 55 7 (12 * (12 + c) + 6) = 0 ∧ h 55 7 (12 * (12 + c) + 7) = 10 ∧ h 55 7 (12 * (12 + c) + 8) = 0
theorem RcR.cls {h0 h : HP} {T : Int → Int} {n i : Int} {t : TK} {δ : PL} (q : RcR h0 h T n t δ (δ 0 0) (-1)) (hn : δ 0 0 < 12) (hi : i = 12 ∨ (0 ≤ i ∧ holdD δ i)) (e50 : h 50 7 (12 + δ 0 0) = rc i) (nw : NwR h (δ 0 0)) : RcR h0 h T n t (addC δ i) (δ 0 0) (-1) := by
  obtain ⟨⟨x, tk, o⟩, b, ⟨d1, d2, d3, d4⟩, dk, fx⟩ := q
  have a0 := addC_0 (δ := δ) (i := i)
  have z8 := dk.2.2.1
  have n0 := dk.1.1.1
  obtain ⟨w0, w4, w5, w6, w7, w8⟩ := nw
  obtain ⟨s6, s7, s8⟩ := addC_s (δ := δ) (i := i)
  refine ⟨⟨x, tk, o⟩, b, ⟨⟨d1.1, by rw [a0.2]; exact d1.2⟩, fun c c0 c1 => ?_, fun f f0 f1 => ?_, fun c k c0 c1 k0 k1 ne => ?_⟩, dk.cls hn hi, fx⟩
  · rw [a0.1] at c1
    rw [addC_1]
    by_cases e : c = δ 0 0
    · rw [if_pos e, e]; exact e50
    · rw [if_neg e]; exact d2 c c0 (by omega)
  · rw [a0.2] at f1
    rw [addC_k (k := 2) (by decide) (by decide) (by decide), addC_k (k := 3) (by decide) (by decide) (by decide), addC_k (k := 4) (by decide) (by decide) (by decide), addC_k (k := 5) (by decide) (by decide) (by decide)]
    exact d3 f f0 f1
  · rw [a0.1] at c1
    by_cases e : c = δ 0 0
    · subst e
      have k3 : k = 0 ∨ k = 1 ∨ k = 2 := by omega
      unfold CvR
      rcases k3 with u | u | u <;> subst u
      · rw [addC_o (by decide) (by omega), z8 _ (by omega) (by omega), if_neg (by omega), show 12 * (12 + δ 0 0) + 4 * 0 = 12 * (12 + δ 0 0) by omega]
        exact ⟨w0, fun v => by omega⟩
      · rw [s6, s7, s8, if_pos (by omega), show 12 * (12 + δ 0 0) + 4 * 1 = 12 * (12 + δ 0 0) + 4 by omega, show 12 * (12 + δ 0 0) + 4 + 1 = 12 * (12 + δ 0 0) + 5 by omega, show 12 * (12 + δ 0 0) + 4 + 2 = 12 * (12 + δ 0 0) + 6 by omega, show 12 * (12 + δ 0 0) + 4 + 3 = 12 * (12 + δ 0 0) + 7 by omega]
        exact ⟨w4, fun _ => ⟨w5, w6, w7⟩⟩
      · rw [addC_o (by decide) (by omega), z8 _ (by omega) (by omega), if_neg (by omega), show 12 * (12 + δ 0 0) + 4 * 2 = 12 * (12 + δ 0 0) + 8 by omega]
        exact ⟨w8, fun v => by omega⟩
    · have := d4 c k c0 (by omega) k0 k1 ne
      unfold CvR at *
      rw [addC_o (by decide) (by omega), addC_o (by decide) (by omega), addC_o (by decide) (by omega)]; exact this
theorem readClass_b {h0 h : HP} {T : Int → Int} {n : Int} {t : TK} {δ : PL} {P : HP → Prop} (q : RcR h0 h T n t δ (δ 0 0) (-1))
    (k : ∀ h' t' δ', RcR h0 h' T n t' δ' (δ' 0 0) (-1) → classD T n t δ = (if t'.2.2.1 = 3 then 0 else 1, t', δ') → P h')
    (ks : ∀ h' y t' δ', StR h0 h' y t'.1 → classD T n t δ = (y, t', δ') → P h') : wX12_readClass 7 h P := by
  have n12 := q.2.2.2.1.1.1.2.1
  have n0 := q.2.2.2.1.1.1.1
  unfold wX12_readClass wX12_newClasses
  rw [q.2.2.1.1.1]
  unfold classD at k ks
  by_cases c12 : δ 0 0 = 12
  · refine ⟨by omega, fun u => absurd c12 u, fun _ => wrong_b q (by omega) (fun h51 s51 => ?_)⟩
    unfold wX12_readClass_14
    rw [s51.1]
    exact ⟨by omega, fun u => by omega, fun _ => ks h51 2 t δ s51 (by rw [if_pos (by omega)])⟩
  refine ⟨by omega, fun _ => ?_, fun u => absurd u c12⟩
  simp only [if_neg (show ¬ 12 ≤ δ 0 0 by omega)] at k ks
  unfold wX12_readClass_14 wX12_newClasses
  rw [q.2.1]
  refine ⟨by omega, fun _ => step_b q (fun h7 f7 q7 => ?_), fun u => absurd rfl u⟩
  rw [q7.2.2.1.1.1]
  generalize nexT T n t = t1 at *
  refine ⟨by omega, fun h10 e10 => clear12_b (by omega) (fun h17 f17 g17 z17 => ⟨by omega, fun h18 e18 => ⟨by omega, fun h20 e20 => ⟨by omega, fun h22 e22 => ?_⟩⟩⟩)⟩
  have k22 : ∀ k, k ≠ 50 → k ≠ 55 → h22 k = h7 k := fun k k1 k2 => by
    rw [e22, up_k k2, e20, up_k k2, e18, up_k k2]
    funext i
    rw [f17 k i (fun u => k2 u.1), e10, up_k k1]
  have g50 : ∀ j, h22 50 7 j = if j = 12 + δ 0 0 then -1 else h7 50 7 j := fun j => by
    rw [e22, up_k (by decide), e20, up_k (by decide), e18, up_k (by decide), f17 50 7 (by omega), e10, up_ji]
  have g55 : ∀ j, ¬ (12 * (12 + δ 0 0) ≤ j ∧ j < 12 * (12 + δ 0 0) + 12) → h22 55 7 j = h7 55 7 j := fun j hj => by
    rw [e22, up_j (by omega), e20, up_j (by omega), e18, up_j (by omega), g17 j hj, e10, up_k (by decide)]
  have q22 : RcR h0 h22 T n t1 δ (δ 0 0) (-1) := by
    obtain ⟨⟨x, tk, o⟩, b, ⟨d1, d2, d3, d4⟩, dk, fx⟩ := q7
    refine ⟨⟨x.cg (k22 12 (by decide) (by decide)) (k22 58 (by decide) (by decide)), tk.cg (k22 12 (by decide) (by decide)), o⟩, by rw [k22 12 (by decide) (by decide)]; exact b, ⟨by rw [k22 49 (by decide) (by decide)]; exact d1, fun c c0 c1 => by rw [g50, if_neg (by omega)]; exact d2 c c0 c1, by rw [k22 51 (by decide) (by decide), k22 52 (by decide) (by decide), k22 53 (by decide) (by decide), k22 54 (by decide) (by decide)]; exact d3, fun c' k' a0 a1 b0 b1 ne => ?_⟩, dk, ?_⟩
    · have := d4 c' k' a0 a1 b0 b1 ne
      unfold CvR at *
      rw [g55 _ (by omega), g55 _ (by omega), g55 _ (by omega), g55 _ (by omega)]; exact this
    · obtain ⟨x1, x2, x3, x4, x5⟩ := fx
      refine ⟨fun k a b' => ?_, fun j a => ?_, fun j a => ?_, fun j a => ?_, fun k j a b' c => ?_⟩
      · rw [k22 k (by omega) (by omega)]; exact x1 k a b'
      · rw [k22 12 (by decide) (by decide)]; exact x2 j a
      · rw [k22 49 (by decide) (by decide)]; exact x3 j a
      · rw [g50, if_neg (by omega)]; exact x4 j a
      · rw [k22 k (by omega) (by omega)]; exact x5 k j a b' c
  have nw22 : NwR h22 (δ 0 0) := by
    have z0 := z17 0 (by omega) (by omega)
    rw [show 12 * (12 + δ 0 0) + 0 = 12 * (12 + δ 0 0) by omega] at z0
    refine ⟨?_, ?_, ?_, ?_, ?_, ?_⟩
    · rw [e22, up_j (by omega), e20, up_j (by omega), e18, up_j (by omega)]; exact z0
    · rw [e22, up_j (by omega), e20, up_j (by omega), e18, up_eq]
    · rw [e22, up_j (by omega), e20, show 12 * (12 + δ 0 0) + 4 + 1 = 12 * (12 + δ 0 0) + 5 by omega, up_eq]
    · rw [e22, up_j (by omega), e20, up_j (by omega), e18, up_j (by omega)]; exact z17 6 (by omega) (by omega)
    · rw [e22, show 12 * (12 + δ 0 0) + 4 + 3 = 12 * (12 + δ 0 0) + 7 by omega, up_eq]
    · rw [e22, up_j (by omega), e20, up_j (by omega), e18, up_j (by omega)]; exact z17 8 (by omega) (by omega)
  have e50 : h22 50 7 (12 + δ 0 0) = -1 := by rw [g50, if_pos rfl]
  have tk := q22.1
  -- the curves of it
  have tail : ∀ (hx : HP) (tx : TK) (δx : PL) (r : RD), RcR h0 hx T n tx δx (δ 0 0) (-1) → δx 0 0 = δ 0 0 + 1 → curvesD T n (3 * δ 0 0) 4 0 tx δx = r → (∀ h' t' δ', RcR h0 h' T n t' δ' (δ' 0 0) (-1) → r = (if t'.2.2.1 = 3 then 0 else 1, t', δ') → P h') → (∀ h' y t' δ', StR h0 h' y t'.1 → r = (y, t', δ') → P h') → wX12_readClass_190 7 (δ 0 0) P hx := by
    intro hx tx δx r qx nx er kk kks
    unfold wX12_readClass_190
    refine readCurves_b qx ⟨nx, n0⟩ (fun h28 t' δ' q28 n28 e28 h29 e29 => kk h29 t' δ' ?_ (by rw [← er]; exact e28)) (fun h28 y t' δ' s28 e28 h29 e29 => kks h29 y t' δ' (by rw [e29]; exact s28.u1 (by omega)) (by rw [← er]; exact e28))
    have m28 : h28 49 7 2 = δ 0 0 := q28.2.2.1.1.1
    rw [e29, m28, n28]
    exact q28.cnt2
  unfold class1 at k ks
  refine is_r tk.1 tk.2.1 q22.2.1 tk.2.2.1 (by omega) (fun y hy hq => ⟨by omega, fun z => ?_, fun z => ?_⟩)
  · have c6 : ¬ t1.2.2.1 = 6 := fun u => by have := hq.mpr u; omega
    simp only [if_neg c6] at k ks
    exact tail h22 t1 (addC δ 12) _ (q22.cls (by omega) (Or.inl rfl) (by rw [e50]; rfl) nw22) addC_0.1 rfl k ks
  · have c6 : t1.2.2.1 = 6 := hq.mp (by omega)
    simp only [if_pos c6] at k ks
    refine step_b q22 (fun h30 f30 q30 => ?_)
    have nw30 : NwR h30 (δ 0 0) := by unfold NwR at *; rw [f30.1 55 (by decide)]; exact nw22
    generalize nexT T n t1 = t2 at *
    unfold class2 at k ks
    refine numNow_b q30 (by omega) (fun m2 => ?_) (fun h31 m2 s31 => ?_)
    · have w2 := numF_0.mp m2
      simp only [if_neg (show ¬ numF t2 0 11 ≠ 0 from fun u => u m2)] at k ks
      rw [q30.2.1]
      have no : ¬ holdD δ t2.2.2.2 → wX12_readClass_164 7 (δ 0 0) t2.2.2.2 P h30 := by
        intro nh
        simp only [if_neg nh] at ks
        unfold wX12_readClass_164
        exact wrong_b q30 (by omega) (fun h43 s43 => class_st s43 (by omega) (fun h' s' => ks h' 3 t2 δ s' rfl))
      refine ⟨by omega, fun u => absurd rfl u, fun _ => ⟨by omega, by omega, fun u => no (fun v => by have := v.1; omega), fun u => ?_⟩⟩
      have cv := q30.2.2.1.2.2.2 t2.2.2.2 0 (by omega) (by omega) (by omega) (by omega) (by omega)
      have e55 : h30 55 7 (12 * (12 + t2.2.2.2)) = if 0 < δ 8 (3 * t2.2.2.2) then 1 else 0 := by
        have := cv.1
        rw [show 12 * (12 + t2.2.2.2) + 4 * 0 = 12 * (12 + t2.2.2.2) by omega, show 3 * t2.2.2.2 + 0 = 3 * t2.2.2.2 by omega] at this
        exact this
      rw [e55]
      by_cases w3 : 0 < δ 8 (3 * t2.2.2.2)
      · rw [if_pos w3]
        exact ⟨by omega, by omega, fun _ => no (fun v => by have := v.2.1; omega), fun v => absurd rfl v⟩
      · rw [if_neg w3]
        refine ⟨by omega, by omega, fun v => by omega, fun _ => newFlow_b q30 (by omega) (fun y2 hy2 hq2 => ⟨by omega, fun v => ?_, fun v => no (fun w => by have := hq2.mpr w.2.2; omega)⟩)⟩
        have hd : holdD δ t2.2.2.2 := ⟨by omega, by omega, hq2.mp v⟩
        simp only [if_pos hd] at k ks
        unfold wX12_readClass_169
        rw [q30.2.1]
        refine ⟨by omega, fun u => absurd rfl u, fun _ => step_b q30 (fun h39 f39 q39 => ?_)⟩
        have nw39 : NwR h39 (δ 0 0) := by unfold NwR at *; rw [f39.1 55 (by decide)]; exact nw30
        unfold wX12_readClass_180
        refine ⟨by omega, fun h37 e37 => ?_⟩
        have q37 : RcR h0 h37 T n (nexT T n t2) δ (δ 0 0) (-1) := by rw [e37]; exact q39.beyond (Or.inl ⟨rfl, Int.le_refl _⟩)
        have nw37 : NwR h37 (δ 0 0) := by unfold NwR at *; rw [e37, up_k (by decide)]; exact nw39
        have r50 : h37 50 7 (12 + δ 0 0) = rc t2.2.2.2 := by
          rw [e37, up_eq]
          unfold rc
          rw [if_neg (by omega)]
        exact tail h37 (nexT T n t2) (addC δ t2.2.2.2) _ (q37.cls (by omega) (Or.inr ⟨by omega, hd⟩) r50 nw37) addC_0.1 rfl k ks
    · simp only [if_pos m2] at ks
      have := s31.2.1
      rw [s31.1]
      exact ⟨by omega, fun _ => class_st s31 (by omega) (fun h' s' => ks h' _ t2 δ s' rfl), fun u => absurd u (by omega)⟩
