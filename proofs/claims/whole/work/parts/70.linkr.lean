/-! the text: the reference reads -/
def FrX (h0 h : HP) : Prop := (∀ k, k ≠ 12 → ¬ (49 ≤ k ∧ k ≤ 55) → h k = h0 k) ∧ (∀ j, ¬ (13 ≤ j ∧ j ≤ 20 ∧ j ≠ 14) → h 12 7 j = h0 12 7 j) ∧ (∀ j, j < 2 → h 49 7 j = h0 49 7 j) ∧ (∀ j, j < 12 → h 50 7 j = h0 50 7 j) ∧ ∀ k j, 51 ≤ k → k ≤ 54 → j < 8 → h k 7 j = h0 k 7 j
theorem FrX.u1 {h0 h : HP} {k : Nat} {j v : Int} (f : FrX h0 h) (hk : (k = 49 ∧ 2 ≤ j) ∨ (k = 50 ∧ 12 ≤ j) ∨ ((51 ≤ k ∧ k ≤ 54) ∧ 8 ≤ j) ∨ k = 55) : FrX h0 (up h k 7 j v) := by
  obtain ⟨f1, f2, f3, f4, f5⟩ := f
  refine ⟨fun k' a b => ?_, fun j' a => ?_, fun j' a => ?_, fun j' a => ?_, fun k' j' a b c => ?_⟩
  · rw [up_k (by omega)]; exact f1 k' a b
  · rw [up_k (by omega)]; exact f2 j' a
  · rw [up_kj (by omega)]; exact f3 j' a
  · rw [up_kj (by omega)]; exact f4 j' a
  · rw [up_kj (by omega)]; exact f5 k' j' a b c
theorem FrX.u12 {h0 h : HP} {j v : Int} (f : FrX h0 h) (hj : 13 ≤ j ∧ j ≤ 20 ∧ j ≠ 14) : FrX h0 (up h 12 7 j v) := by
  obtain ⟨f1, f2, f3, f4, f5⟩ := f
  refine ⟨fun k' a b => ?_, fun j' a => ?_, fun j' a => ?_, fun j' a => ?_, fun k' j' a b c => ?_⟩
  · rw [up_k a]; exact f1 k' a b
  · rw [up_j (fun z => a (by rw [z]; exact hj))]; exact f2 j' a
  · rw [up_k (by decide)]; exact f3 j' a
  · rw [up_k (by decide)]; exact f4 j' a
  · rw [up_k (by omega)]; exact f5 k' j' a b c
theorem FrX.fk {h0 h h' : HP} (f : FrX h0 h) (g : FrK h h') : FrX h0 h' := by
  obtain ⟨f1, f2, f3, f4, f5⟩ := f
  refine ⟨fun k' a b => ?_, fun j' a => ?_, fun j' a => ?_, fun j' a => ?_, fun k' j' a b c => ?_⟩
  · rw [g.1 k' a]; exact f1 k' a b
  · rw [g.2 j' (by unfold tkJ; omega)]; exact f2 j' a
  · rw [g.1 49 (by decide)]; exact f3 j' a
  · rw [g.1 50 (by decide)]; exact f4 j' a
  · rw [g.1 k' (by omega)]; exact f5 k' j' a b c
def CvR (h : HP) (δ : PL) (c k : Int) : Prop := h 55 7 (12 * (12 + c) + 4 * k) = (if 0 < δ 8 (3 * c + k) then 1 else 0) ∧ (0 < δ 8 (3 * c + k) → h 55 7 (12 * (12 + c) + 4 * k + 1) = δ 6 (3 * c + k) ∧ h 55 7 (12 * (12 + c) + 4 * k + 2) = δ 7 (3 * c + k) ∧ h 55 7 (12 * (12 + c) + 4 * k + 3) = δ 8 (3 * c + k))
def DrR (h : HP) (δ : PL) (m ex : Int) : Prop := (h 49 7 2 = m ∧ h 49 7 3 = δ 0 1) ∧ (∀ c, 0 ≤ c → c < δ 0 0 → h 50 7 (12 + c) = rc (δ 1 c)) ∧
  (∀ f, 0 ≤ f → f < δ 0 1 → h 51 7 (8 + f) = δ 2 f ∧ h 52 7 (8 + f) = δ 3 f ∧ h 53 7 (8 + f) = δ 4 f ∧ h 54 7 (8 + f) = δ 5 f) ∧
  ∀ c k, 0 ≤ c → c < δ 0 0 → 0 ≤ k → k < 3 → 3 * c + k ≠ ex → CvR h δ c k
theorem DrR.cg {h h' : HP} {δ : PL} {m ex : Int} (q : DrR h δ m ex) (e : ∀ k, 49 ≤ k → k ≤ 55 → h' k = h k) : DrR h' δ m ex := by
  unfold DrR CvR at *
  rw [e 49 (by decide) (by decide), e 50 (by decide) (by decide), e 51 (by decide) (by decide), e 52 (by decide) (by decide), e 53 (by decide) (by decide), e 54 (by decide) (by decide), e 55 (by decide) (by decide)]; exact q
def RcR (h0 h : HP) (T : Int → Int) (n : Int) (t : TK) (δ : PL) (m ex : Int) : Prop := (TxR h T n ∧ TkR h T t ∧ tOK n t) ∧ h 12 7 19 = 0 ∧ DrR h δ m ex ∧ DOK δ ∧ FrX h0 h
def StR (h0 h : HP) (y p : Int) : Prop := h 12 7 19 = y ∧ (1 ≤ y ∧ y ≤ 5) ∧ h 12 7 20 = p ∧ FrX h0 h
theorem StR.u1 {h0 h : HP} {y p : Int} {k : Nat} {j v : Int} (s : StR h0 h y p) (hk : (k = 49 ∧ 2 ≤ j) ∨ (k = 50 ∧ 12 ≤ j) ∨ ((51 ≤ k ∧ k ≤ 54) ∧ 8 ≤ j) ∨ k = 55) : StR h0 (up h k 7 j v) y p :=
  ⟨by rw [up_k (by omega)]; exact s.1, s.2.1, by rw [up_k (by omega)]; exact s.2.2.1, s.2.2.2.u1 hk⟩
theorem TxR.cg {h h' : HP} {T : Int → Int} {n : Int} (q : TxR h T n) (e : h' 12 = h 12) (e2 : h' 58 = h 58) : TxR h' T n := by unfold TxR at *; rw [e, e2]; exact q
theorem TkR.cg {h h' : HP} {T : Int → Int} {t : TK} (q : TkR h T t) (e : h' 12 = h 12) : TkR h' T t := by unfold TkR at *; rw [e]; exact q
theorem step_b {h0 h : HP} {T : Int → Int} {n m ex : Int} {t : TK} {δ : PL} {P : HP → Prop} (q : RcR h0 h T n t δ m ex) (k : ∀ h', FrK h h' → RcR h0 h' T n (nexT T n t) δ m ex → P h') : wX12_stepOn 7 h P := by
  obtain ⟨⟨x, tk, o⟩, b, d, dk, fx⟩ := q
  refine stepOn_r x tk.1 (by have := o.1; omega) (fun h' f' x' k' => k h' f' ⟨⟨x', k', o.next.1⟩, by rw [f'.2 19 (by unfold tkJ; omega)]; exact b, d.cg (fun k k1 k2 => f'.1 k (by omega)), dk, fx.fk f'⟩)
theorem wrong_b {h0 h : HP} {T : Int → Int} {n m ex y : Int} {t : TK} {δ : PL} {P : HP → Prop} (q : RcR h0 h T n t δ m ex) (hy : 1 ≤ y ∧ y ≤ 5) (k : ∀ h', StR h0 h' y t.1 → P h') : wX12_wrong 7 y h P := by
  obtain ⟨⟨x, tk, o⟩, b, d, dk, fx⟩ := q
  unfold wX12_wrong
  rw [b]
  refine ⟨by omega, fun _ h3 e3 h4 e4 => k h4 ⟨?_, hy, ?_, ?_⟩, fun u => absurd rfl u⟩
  · rw [e4, up_j (by decide), e3, up_eq]
  · rw [e4, up_eq, e3, up_j (by decide)]; exact tk.2.1
  · rw [e4, e3]; exact (fx.u12 (by omega)).u12 (by omega)
theorem wrong_st {h0 h : HP} {y p z : Int} {P : HP → Prop} (s : StR h0 h y p) (k : P h) : wX12_wrong 7 z h P := by
  have := s.2.1
  unfold wX12_wrong
  rw [s.1]
  exact ⟨by omega, fun u => by omega, fun _ => k⟩
theorem is_st {h0 h : HP} {y p s : Int} {P : Int → HP → Prop} (q : StR h0 h y p) (k : P 0 h) : wX12_is 7 s h P := by
  have := q.2.1
  unfold wX12_is
  rw [q.1]
  refine ⟨by omega, fun _ => ?_, fun u => by omega⟩
  unfold wX12_is_35 wX12_is_36
  refine ⟨1, ?_⟩
  rw [wX12_is_39]
  exact ⟨by omega, fun _ => ⟨Or.inl rfl, k⟩, fun u => absurd rfl u⟩
theorem which_st {h0 h : HP} {y p : Int} {P : Int → HP → Prop} (q : StR h0 h y p) (k : P (-1) h) : wX12_which 7 7 h P := by
  unfold wX12_which
  refine ⟨4, ?_⟩
  rw [wX12_which_2]
  refine ⟨by omega, fun u => by omega, fun _ => ⟨by omega, is_st q ⟨by omega, fun _ => ?_, fun u => absurd rfl u⟩⟩⟩
  rw [wX12_which_2]
  refine ⟨by omega, fun u => by omega, fun _ => ⟨by omega, is_st q ⟨by omega, fun _ => ?_, fun u => absurd rfl u⟩⟩⟩
  rw [wX12_which_2]
  refine ⟨by omega, fun u => by omega, fun _ => ⟨by omega, is_st q ⟨by omega, fun _ => ?_, fun u => absurd rfl u⟩⟩⟩
  rw [wX12_which_2]
  exact ⟨by omega, fun _ => k, fun u => absurd (by omega) u⟩
def whV (t : TK) : Int := if 7 ≤ t.2.2.1 then t.2.2.1 - 7 else -1
theorem which_b {h0 h : HP} {T : Int → Int} {n m ex : Int} {t : TK} {δ : PL} {P : Int → HP → Prop} (q : RcR h0 h T n t δ m ex) (k : P (whV t) h) : wX12_which 7 7 h P := by
  obtain ⟨⟨x, tk, o⟩, b, -⟩ := q
  have k9 := o.2.1
  unfold whV at k
  unfold wX12_which
  refine ⟨4, ?_⟩
  have at' : ∀ (s : Int) (Q : Int → HP → Prop), (0 ≤ s ∧ s < 3) → (t.2.2.1 = s + 7 → Q 1 h) → (t.2.2.1 ≠ s + 7 → Q 0 h) → wX12_is 7 s h Q := by
    intro s Q hs q1 q0
    have kd : kdS s = s + 7 := by unfold kdS; rw [if_neg (by omega), if_neg (by omega), if_neg (by omega)]
    refine is_r x tk b o.1 (by omega) (fun y hy hq => ?_)
    rw [kd] at hq
    rcases hy with u | u
    · rw [u]; exact q0 (fun w => by have := hq.mpr w; omega)
    · rw [u]; exact q1 (hq.mp u)
  rw [wX12_which_2]
  refine ⟨by omega, fun u => by omega, fun _ => ⟨by omega, at' 0 _ (by omega) (fun e => ⟨by omega, fun u => by omega, fun _ => ?_⟩) (fun e0 => ⟨by omega, fun _ => ?_, fun u => absurd rfl u⟩)⟩⟩
  · rw [if_pos (by omega), e] at k; exact k
  rw [wX12_which_2]
  refine ⟨by omega, fun u => by omega, fun _ => ⟨by omega, at' (0 + 1) _ (by omega) (fun e => ⟨by omega, fun u => by omega, fun _ => ?_⟩) (fun e1 => ⟨by omega, fun _ => ?_, fun u => absurd rfl u⟩)⟩⟩
  · rw [if_pos (by omega), e] at k; exact k
  rw [wX12_which_2]
  refine ⟨by omega, fun u => by omega, fun _ => ⟨by omega, at' (0 + 1 + 1) _ (by omega) (fun e => ⟨by omega, fun u => by omega, fun _ => ?_⟩) (fun e2 => ⟨by omega, fun _ => ?_, fun u => absurd rfl u⟩)⟩⟩
  · rw [if_pos (by omega), e] at k; exact k
  rw [wX12_which_2]
  refine ⟨by omega, fun _ => ?_, fun u => absurd (by omega) u⟩
  rw [if_neg (by omega)] at k; exact k
theorem numNow_b {h0 h : HP} {T : Int → Int} {n m ex lo hi : Int} {t : TK} {δ : PL} {P : Int → HP → Prop} (q : RcR h0 h T n t δ m ex) (hl : 0 ≤ lo ∧ lo ≤ hi ∧ hi ≤ 1000)
    (k : numF t lo hi = 0 → P t.2.2.2 h) (ks : ∀ h', numF t lo hi ≠ 0 → StR h0 h' (numF t lo hi) t.1 → P lo h') : wX12_numberNow 7 lo hi h P := by
  obtain ⟨x, tk, o⟩ := q.1
  have b := q.2.1
  have o1 := o.1
  have x2 := x.2.1
  obtain ⟨c1, c2, c3, c4, c5, c6⟩ := tk.2.2.2.1
  unfold wX12_numberNow
  rw [b]
  refine ⟨by omega, fun _ => ⟨by omega, fun z => ?_, fun z => ?_⟩, fun u => absurd rfl u⟩
  · have kd : t.2.2.1 = 2 := c3.mp z
    obtain ⟨v1, v2, v3⟩ := tk.2.2.2.2 kd
    have two : numF t lo hi = 2 → wX12_numberNow_54 7 lo hi P h := by
      intro e
      unfold wX12_numberNow_54
      rw [e] at ks
      refine wrong_b q (by omega) (fun h7 s7 => ?_)
      rw [s7.1]
      refine ⟨by omega, fun t9 h9 => ?_⟩
      rw [h9.1 (by omega)]
      exact ks h7 (by omega) s7
    rw [tk.2.2.1, tk.2.1]
    refine ⟨by omega, fun u => two ?_, fun u => ?_⟩
    · have := v3 u
      unfold numF
      rw [if_pos kd, if_pos (Or.inr (by omega))]
    · have e := v2 (by omega)
      rw [e]
      refine ⟨by omega, by omega, fun u2 => two ?_, fun u2 => ⟨by omega, by omega, fun u3 => ?_, fun u3 => two ?_⟩⟩
      · unfold numF; rw [if_pos kd, if_pos (Or.inl u2)]
      · have e0 : numF t lo hi = 0 := by unfold numF; rw [if_pos kd, if_neg (by omega)]
        refine ⟨by omega, fun t20 h20 => ?_⟩
        rw [h20.2 rfl]
        exact k e0
      · unfold numF; rw [if_pos kd, if_pos (Or.inr (by omega))]
  · have kd : t.2.2.1 ≠ 2 := fun u => z (c3.mpr u)
    have e : numF t lo hi = 1 := by unfold numF; rw [if_neg kd]
    rw [e] at ks
    refine wrong_b q (by omega) (fun h7 s7 => ?_)
    rw [s7.1]
    refine ⟨by omega, fun t9 h9 => ?_⟩
    rw [h9.1 (by omega)]
    exact ks h7 (by omega) s7
theorem readNum_b {h0 h : HP} {T : Int → Int} {n m ex lo hi : Int} {t : TK} {δ : PL} {P : Int → HP → Prop} (q : RcR h0 h T n t δ m ex) (hl : 0 ≤ lo ∧ lo ≤ hi ∧ hi ≤ 1000)
    (k : ∀ h', FrK h h' → numF t lo hi = 0 → RcR h0 h' T n (nexT T n t) δ m ex → P t.2.2.2 h') (ks : ∀ h', numF t lo hi ≠ 0 → StR h0 h' (numF t lo hi) t.1 → P lo h') : wX12_readNumber 7 lo hi h P := by
  unfold wX12_readNumber
  refine numNow_b q hl (fun z => ?_) (fun h' z s => ?_)
  · rw [q.2.1]
    exact ⟨by omega, fun u => absurd rfl u, fun _ => step_b q (fun h5 f5 q5 => k h5 f5 z q5)⟩
  · have := s.2.1
    rw [s.1]
    exact ⟨by omega, fun _ => ks h' z s, fun u => absurd u z⟩
theorem readNum_st {h0 h : HP} {y p lo hi : Int} {P : Int → HP → Prop} (s : StR h0 h y p) (k : P lo h) : wX12_readNumber 7 lo hi h P := by
  have := s.2.1
  unfold wX12_readNumber wX12_numberNow
  rw [s.1]
  refine ⟨by omega, fun u => by omega, fun _ => ?_⟩
  show (-2147483648 ≤ h 12 7 19 ∧ h 12 7 19 < 2147483648) ∧ (¬ h 12 7 19 = 0 → P lo h) ∧ (h 12 7 19 = 0 → wX12_stepOn 7 h (fun h5 => P lo h5))
  rw [s.1]
  exact ⟨by omega, fun _ => k, fun u => by omega⟩
/-- writing at the slot that is left out -/
theorem RcR.up55 {h0 h : HP} {T : Int → Int} {n m c k i v ex : Int} {t : TK} {δ : PL} (q : RcR h0 h T n t δ m ex) (he : ex = -1 ∨ ex = 3 * c + k) (c0 : 0 ≤ c) (c1 : c < 12) (hk : 0 ≤ k ∧ k < 3) (hi : 0 ≤ i ∧ i ≤ 3) : RcR h0 (up h 55 7 (12 * (12 + c) + 4 * k + i) v) T n t δ m (3 * c + k) := by
  obtain ⟨⟨x, tk, o⟩, b, ⟨d1, d2, d3, d4⟩, dk, fx⟩ := q
  refine ⟨⟨x.cg (up_k (by decide)) (up_k (by decide)), tk.cg (up_k (by decide)), o⟩, by rw [up_k (by decide)]; exact b, ⟨by rw [up_k (by decide)]; exact d1, by rw [up_k (by decide)]; exact d2, by rw [up_k (by decide), up_k (by decide), up_k (by decide), up_k (by decide)]; exact d3, fun c' k' a0 a1 b0 b1 ne => ?_⟩, dk, fx.u1 (by omega)⟩
  have := d4 c' k' a0 a1 b0 b1 (by omega)
  unfold CvR at *
  rw [up_j (by omega), up_j (by omega), up_j (by omega), up_j (by omega)]; exact this
theorem rest_st {h0 h : HP} {c d v y p : Int} {K : Int → Int → HP → Prop} (s : StR h0 h y p) (c0 : 0 ≤ c ∧ c < 12) (hv : 0 ≤ v ∧ v < 3) (k : ∀ h', StR h0 h' y p → K d (-1) h') : wX12_readCurves_59 7 c (12 * (12 + c)) d v K h := by
  unfold wX12_readCurves_59
  refine ⟨by omega, fun h9 e9 => ?_⟩
  have s9 : StR h0 h9 y p := by rw [e9]; exact s.u1 (Or.inr (Or.inr (Or.inr rfl)))
  refine readNum_st s9 ⟨by omega, fun h13 e13 => ?_⟩
  have s13 : StR h0 h13 y p := by rw [e13]; exact s9.u1 (Or.inr (Or.inr (Or.inr rfl)))
  refine readNum_st s13 ⟨by omega, fun h17 e17 => ?_⟩
  have s17 : StR h0 h17 y p := by rw [e17]; exact s13.u1 (Or.inr (Or.inr (Or.inr rfl)))
  refine readNum_st s17 ⟨by omega, fun h21 e21 => ?_⟩
  have s21 : StR h0 h21 y p := by rw [e21]; exact s17.u1 (Or.inr (Or.inr (Or.inr rfl)))
  exact which_st s21 (k h21 s21)
def cnt3 (d : Int) : Int := bAnd (bShr d 0) 1 + bAnd (bShr d 1) 1 + bAnd (bShr d 2) 1
theorem cnt3_all : ∀ d : Nat, d < 8 → ∀ v : Nat, v < 3 → (0 ≤ bOr d (bShl 1 v) ∧ bOr d (bShl 1 v) < 8) ∧ cnt3 d ≤ 3 ∧ (bAnd (bShr d v) 1 ≠ 1 → cnt3 (bOr d (bShl 1 v)) = cnt3 d + 1) := by decide +kernel
theorem readCurves_b {h0 h : HP} {T : Int → Int} {n c : Int} {t : TK} {δ : PL} {P : HP → Prop} (q : RcR h0 h T n t δ c (-1)) (hc : δ 0 0 = c + 1 ∧ 0 ≤ c)
    (k : ∀ h' t' δ', RcR h0 h' T n t' δ' c (-1) → δ' 0 0 = c + 1 → curvesD T n (3 * c) 4 0 t δ = (if t'.2.2.1 = 3 then 0 else 1, t', δ') → P h')
    (ks : ∀ h' y t' δ', StR h0 h' y t'.1 → curvesD T n (3 * c) 4 0 t δ = (y, t', δ') → P h') : wX12_readCurves 7 c h P := by
  have c12 : c < 12 := by have := q.2.2.2.1.1.1.2.1; omega
  unfold wX12_readCurves
  generalize hR : curvesD T n (3 * c) 4 0 t δ = R at *
  refine which_b q ⟨5, ?_⟩
  have loop : ∀ (f : Nat) (d : Int) (t1 : TK) (δ1 : PL) (hh : HP), 4 ≤ f + cnt3 d → (0 ≤ d ∧ d < 8) → RcR h0 hh T n t1 δ1 c (-1) → δ1 0 0 = c + 1 → curvesD T n (3 * c) f d t1 δ1 = R → wX12_readCurves_20 7 c (12 * (12 + c)) (fun h28 => P h28) (f + 1) d (whV t1) hh := by
    intro f
    induction f with
    | zero =>
      intro d t1 δ1 hh hf hd q1 n1 e
      have := (cnt3_all d.toNat (by omega) 0 (by omega)).2.1
      rw [show ((d.toNat : Nat) : Int) = d by omega] at this
      omega
    | succ f ih =>
      intro d t1 δ1 hh hf hd q1 n1 e
      have k9 := q1.1.2.2.2.1
      unfold curvesD at e
      rw [wX12_readCurves_20]
      by_cases c7 : t1.2.2.1 < 7
      · have ev : whV t1 = -1 := by unfold whV; rw [if_neg (by omega)]
        rw [ev]
        refine ⟨by omega, fun _ => k hh t1 δ1 q1 n1 ?_, fun u => absurd rfl u⟩
        rw [← e]
        by_cases c3 : t1.2.2.1 = 3
        · rw [if_pos c3, if_pos c3]
        · rw [if_neg c3, if_pos c7, if_neg c3]
      · have ev : whV t1 = t1.2.2.1 - 7 := by unfold whV; rw [if_pos (by omega)]
        rw [ev]
        rw [if_neg (by omega), if_neg c7] at e
        have rv : 0 ≤ t1.2.2.1 - 7 ∧ t1.2.2.1 - 7 < 3 := by omega
        have ca := cnt3_all d.toNat (by omega) (t1.2.2.1 - 7).toNat (by omega)
        rw [show ((d.toNat : Nat) : Int) = d by omega, show (((t1.2.2.1 - 7).toNat : Nat) : Int) = t1.2.2.1 - 7 by omega] at ca
        have b := bAnd1_all (bShr d (t1.2.2.1 - 7))
        generalize t1.2.2.1 - 7 = v at *
        -- stuck from here
        have stuck : ∀ (hx : HP) (y : Int) (tx : TK) (δx : PL), StR h0 hx y tx.1 → (y, tx, δx) = R → wX12_readCurves_20 7 c (12 * (12 + c)) (fun h28 => P h28) (f + 1) (bOr d (bShl 1 v)) (-1) hx := by
          intro hx y tx δx sx ex
          rw [wX12_readCurves_20]
          exact ⟨by omega, fun _ => ks hx y tx δx sx ex.symm, fun u => absurd rfl u⟩
        refine ⟨by omega, fun u => by omega, fun _ => ⟨by omega, fun z => ?_, fun z => ?_⟩⟩
        · rw [if_neg z] at e
          unfold wX12_readCurves_41
          rw [q1.2.1]
          refine ⟨by omega, fun u => absurd rfl u, fun _ => step_b q1 (fun h25 f25 q25 => ?_)⟩
          generalize nexT T n t1 = t2 at *
          unfold curD at e
          unfold wX12_readCurves_59
          refine ⟨by omega, fun h9 e9 => ?_⟩
          have q9 : RcR h0 h9 T n t2 δ1 c (3 * c + v) := by
            rw [e9]
            have := q25.up55 (i := 0) (v := 1) (Or.inl rfl) hc.2 c12 rv (by omega)
            rw [show 12 * (12 + c) + 4 * v + 0 = 12 * (12 + c) + 4 * v by omega] at this
            exact this
          have a9 : h9 55 7 (12 * (12 + c) + 4 * v) = 1 := by rw [e9, up_eq]
          have u55 : ∀ {hx : HP} {y p : Int} {j w : Int}, StR h0 hx y p → StR h0 (up hx 55 7 j w) y p := fun s => s.u1 (Or.inr (Or.inr (Or.inr rfl)))
          refine readNum_b q9 (by omega) (fun h11 f11 m1 q11 => ⟨by omega, fun h13 e13 => ?_⟩) (fun h11 m1 s11 => ⟨by omega, fun h13 e13 => ?_⟩)
          · rw [if_neg (show ¬ numF t2 0 100 ≠ 0 from fun u => u m1)] at e
            have w1 := numF_0.mp m1
            have q13 : RcR h0 h13 T n (nexT T n t2) δ1 c (3 * c + v) := by rw [e13]; exact q11.up55 (i := 1) (Or.inr rfl) hc.2 c12 rv (by omega)
            have a13 : h13 55 7 (12 * (12 + c) + 4 * v) = 1 ∧ h13 55 7 (12 * (12 + c) + 4 * v + 1) = t2.2.2.2 := ⟨by rw [e13, up_j (by omega), f11.1 55 (by decide)]; exact a9, by rw [e13, up_eq]⟩
            generalize t2.2.2.2 = b1 at *
            generalize nexT T n t2 = t3 at *
            unfold curD2 at e
            refine readNum_b q13 (by omega) (fun h15 f15 m2 q15 => ⟨by omega, fun h17 e17 => ?_⟩) (fun h15 m2 s15 => ⟨by omega, fun h17 e17 => ?_⟩)
            · rw [if_neg (show ¬ numF t3 0 30 ≠ 0 from fun u => u m2)] at e
              have w2 := numF_0.mp m2
              have q17 : RcR h0 h17 T n (nexT T n t3) δ1 c (3 * c + v) := by rw [e17]; exact q15.up55 (i := 2) (Or.inr rfl) hc.2 c12 rv (by omega)
              have a17 : h17 55 7 (12 * (12 + c) + 4 * v) = 1 ∧ h17 55 7 (12 * (12 + c) + 4 * v + 1) = b1 ∧ h17 55 7 (12 * (12 + c) + 4 * v + 2) = t3.2.2.2 := ⟨by rw [e17, up_j (by omega), f15.1 55 (by decide)]; exact a13.1, by rw [e17, up_j (by omega), f15.1 55 (by decide)]; exact a13.2, by rw [e17, up_eq]⟩
              generalize t3.2.2.2 = b2 at *
              generalize nexT T n t3 = t4 at *
              unfold curD3 at e
              refine readNum_b q17 (by omega) (fun h19 f19 m3 q19 => ⟨by omega, fun h21 e21 => ?_⟩) (fun h19 m3 s19 => ⟨by omega, fun h21 e21 => ?_⟩)
              · rw [if_neg (show ¬ numF t4 1 100 ≠ 0 from fun u => u m3)] at e
                have w3 := numF_0.mp m3
                have q21 : RcR h0 h21 T n (nexT T n t4) δ1 c (3 * c + v) := by rw [e21]; exact q19.up55 (i := 3) (Or.inr rfl) hc.2 c12 rv (by omega)
                have a21 : h21 55 7 (12 * (12 + c) + 4 * v) = 1 ∧ h21 55 7 (12 * (12 + c) + 4 * v + 1) = b1 ∧ h21 55 7 (12 * (12 + c) + 4 * v + 2) = b2 ∧ h21 55 7 (12 * (12 + c) + 4 * v + 3) = t4.2.2.2 := ⟨by rw [e21, up_j (by omega), f19.1 55 (by decide)]; exact a17.1, by rw [e21, up_j (by omega), f19.1 55 (by decide)]; exact a17.2.1, by rw [e21, up_j (by omega), f19.1 55 (by decide)]; exact a17.2.2, by rw [e21, up_eq]⟩
                generalize t4.2.2.2 = b3 at *
                have wl : wellC b1 b2 b3 := by unfold wellC; omega
                have qf : RcR h0 h21 T n (nexT T n t4) (putD δ1 (3 * c + v) b1 b2 b3) c (-1) := by
                  obtain ⟨qa, qb, ⟨d1, d2, d3, d4⟩, qd, qe⟩ := q21
                  obtain ⟨s6, s7, s8⟩ := putD_s (δ := δ1) (s := 3 * c + v) (a := b1) (b := b2) (c := b3)
                  refine ⟨qa, qb, ⟨by rw [putD_k (by decide)]; exact d1, by rw [putD_k (k := 0) (by decide), putD_k (k := 1) (by decide)]; exact d2, by rw [putD_k (k := 0) (by decide), putD_k (k := 2) (by decide), putD_k (k := 3) (by decide), putD_k (k := 4) (by decide), putD_k (k := 5) (by decide)]; exact d3, fun c' k' x0 x1 y0 y1 _ => ?_⟩, qd.put ⟨n1, hc.2⟩ (by omega) wl, qe⟩
                  rw [putD_k (by decide)] at x1
                  by_cases w : 3 * c' + k' = 3 * c + v
                  · have e1 : c' = c := by omega
                    have e2 : k' = v := by omega
                    subst e1; subst e2
                    unfold CvR
                    rw [s6, s7, s8, a21.1, a21.2.1, a21.2.2.1, a21.2.2.2, if_pos (by omega)]
                    exact ⟨rfl, fun _ => ⟨rfl, rfl, rfl⟩⟩
                  · have := d4 c' k' x0 x1 y0 y1 w
                    unfold CvR at *
                    rw [putD_o w, putD_o w, putD_o w]; exact this
                rw [if_neg (show ¬ ((0 : Int), nexT T n t4, putD δ1 (3 * c + v) b1 b2 b3).1 ≠ 0 from fun u => u rfl)] at e
                refine which_b qf ?_
                exact ih (bOr d (bShl 1 v)) (nexT T n t4) (putD δ1 (3 * c + v) b1 b2 b3) h21 (by rw [ca.2.2 z]; omega) ca.1 qf (by rw [putD_k (by decide)]; exact n1) e
              · rw [if_pos (show numF t4 1 100 ≠ 0 from m3), if_pos (show (numF t4 1 100, t4, δ1).1 ≠ 0 from m3)] at e
                have s21 : StR h0 h21 (numF t4 1 100) t4.1 := by rw [e21]; exact u55 s19
                exact which_st s21 (stuck h21 _ _ _ s21 e)
            · rw [if_pos (show numF t3 0 30 ≠ 0 from m2), if_pos (show (numF t3 0 30, t3, δ1).1 ≠ 0 from m2)] at e
              have s17 : StR h0 h17 (numF t3 0 30) t3.1 := by rw [e17]; exact u55 s15
              refine readNum_st s17 ⟨by omega, fun h21 e21 => ?_⟩
              have s21 : StR h0 h21 (numF t3 0 30) t3.1 := by rw [e21]; exact u55 s17
              exact which_st s21 (stuck h21 _ _ _ s21 e)
          · rw [if_pos (show numF t2 0 100 ≠ 0 from m1), if_pos (show (numF t2 0 100, t2, δ1).1 ≠ 0 from m1)] at e
            have s13 : StR h0 h13 (numF t2 0 100) t2.1 := by rw [e13]; exact u55 s11
            refine readNum_st s13 ⟨by omega, fun h17 e17 => ?_⟩
            have s17 : StR h0 h17 (numF t2 0 100) t2.1 := by rw [e17]; exact u55 s13
            refine readNum_st s17 ⟨by omega, fun h21 e21 => ?_⟩
            have s21 : StR h0 h21 (numF t2 0 100) t2.1 := by rw [e21]; exact u55 s17
            exact which_st s21 (stuck h21 _ _ _ s21 e)
        · rw [if_pos z] at e
          refine wrong_b q1 (by omega) (fun h26 s26 => ?_)
          unfold wX12_readCurves_41
          have := s26.2.1
          rw [s26.1]
          refine ⟨by omega, fun _ => rest_st s26 ⟨hc.2, c12⟩ rv (fun h' s' => stuck h' _ _ _ s' e), fun u => by omega⟩
  have z0 : cnt3 0 = 0 := by decide +kernel
  exact loop 4 0 t δ h (by rw [z0]; omega) (by omega) q hc.1 hR
