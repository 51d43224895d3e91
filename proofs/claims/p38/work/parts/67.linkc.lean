def Fr2 (h h' : HP) : Prop := ∀ k i, k ≠ 9 → (i ≠ 2 ∨ 44 ≤ k ∨ k = 12) → h' k i = h k i
theorem up_x {h : HP} {k k' : Nat} {i i' j v : Int} (hn : ¬ (k' = k ∧ i' = i)) : up h k i j v k' i' = h k' i' := by
  by_cases e : k' = k
  · exact up_i (fun z => hn ⟨e, z⟩)
  · rw [up_k e]
def CuD (h : HP) (δ : PL) : Prop := ∀ s, 0 ≤ s → s < 36 → h 15 2 s = δ 8 s ∧ h 17 2 s = 0 ∧ (0 < δ 8 s → h 13 2 s = δ 6 s ∧ h 14 2 s = δ 7 s ∧ h 16 2 s = tbend (δ 6 s) (δ 7 s) (δ 8 s))
def RcC (h0 h : HP) (T : Int → Int) (n : Int) (t : TK) (δ : PL) : Prop := (TxC h T n ∧ TkC h t ∧ tOK n t) ∧ PlanC h 2 δ ∧ CuD h δ ∧ DOK δ ∧ Fr2 h0 h
theorem CuD.cg {h h' : HP} {δ : PL} (q : CuD h δ) (e : ∀ k, 13 ≤ k → k ≤ 17 → h' k 2 = h k 2) : CuD h' δ := by
  unfold CuD at *
  rw [e 13 (by decide) (by decide), e 14 (by decide) (by decide), e 15 (by decide) (by decide), e 16 (by decide) (by decide), e 17 (by decide) (by decide)]; exact q
theorem RcC.f9 {h0 h h' : HP} {T : Int → Int} {n : Int} {t t' : TK} {δ : PL} (q : RcC h0 h T n t δ) (f : Fr9 h h') (x : TxC h' T n) (k : TkC h' t') (o : tOK n t') : RcC h0 h' T n t' δ :=
  ⟨⟨x, k, o⟩, q.2.1.congr (fun k hk => by rw [f k (by omega)]), q.2.2.1.cg (fun k k1 k2 => by rw [f k (by omega)]), q.2.2.2.1, fun k i k9 i2 => by rw [f k k9]; exact q.2.2.2.2 k i k9 i2⟩
theorem takeTk_c {h0 h : HP} {T : Int → Int} {n : Int} {t : TK} {δ : PL} {P : HP → Prop} (q : RcC h0 h T n t δ) (k : ∀ h', RcC h0 h' T n (nexT T n t) δ → P h') : wX9_takeToken 0 h P := by
  obtain ⟨x, tk, o⟩ := q.1
  refine takeToken_c x tk.2.1 (by have := o.1; omega) (fun h' f' x' k' => k h' (q.f9 f' x' k' (o.next).1))
theorem RcC.num {h0 h : HP} {T : Int → Int} {n : Int} {t : TK} {δ : PL} (q : RcC h0 h T n t δ) : h 8 2 0 = δ 0 0 ∧ h 8 2 1 = δ 0 1 ∧ (0 ≤ δ 0 0 ∧ δ 0 0 ≤ 12) ∧ (0 ≤ δ 0 1 ∧ δ 0 1 ≤ 8) := ⟨q.2.1.1.1, q.2.1.1.2, ⟨q.2.2.2.1.1.1.1, q.2.2.2.1.1.1.2.1⟩, q.2.2.2.1.1.2.1⟩
theorem RcC.kd {h0 h : HP} {T : Int → Int} {n : Int} {t : TK} {δ : PL} (q : RcC h0 h T n t δ) : h 9 0 5 = t.2.2.1 ∧ (0 ≤ t.2.2.1 ∧ t.2.2.1 ≤ 9) ∧ (t.2.2.1 = 2 → h 9 0 6 = t.2.2.2) ∧ (0 ≤ t.2.2.2 ∧ t.2.2.2 ≤ 1000000) := ⟨q.1.2.1.2.2.1, q.1.2.2.2.1, q.1.2.1.2.2.2, q.1.2.2.2.2.2⟩
theorem readNum_c {h0 h : HP} {T : Int → Int} {n lo hi : Int} {t : TK} {δ : PL} {P : Int → HP → Prop} (q : RcC h0 h T n t δ) (hl : 0 ≤ lo ∧ lo ≤ hi ∧ hi ≤ 1000)
    (k : ∀ h', RcC h0 h' T n (nexT T n t) δ → (numF (nexT T n t) lo hi = 0 → h' 9 0 6 = (nexT T n t).2.2.2) → P (numF (nexT T n t) lo hi) h') : wX9_readNumber 0 lo hi h P := by
  unfold wX9_readNumber
  refine takeTk_c q (fun h1 q1 => ?_)
  have kd := q1.kd
  have kk := k h1 q1
  generalize nexT T n t = t' at *
  rw [kd.1]
  refine ⟨by omega, fun c => ?_, fun c => ?_⟩
  · have e6 := kd.2.2.1 c
    rw [e6]
    refine ⟨⟨by omega, by omega, fun _ => by omega⟩, fun t8 h8 => ?_⟩
    have e : t8 = numF t' lo hi := by
      unfold numF
      rw [if_pos c]
      by_cases c1 : t'.2.2.2 < lo
      · rw [if_pos (Or.inl c1)]; exact h8.1 c1
      · by_cases c2 : t'.2.2.2 ≤ hi
        · rw [if_neg (by omega)]; exact (h8.2 c1).1 c2
        · rw [if_pos (Or.inr (by omega))]; exact (h8.2 c1).2 c2
    rw [e]
    exact kk (fun _ => e6)
  · have e : numF t' lo hi = 1 := by unfold numF; rw [if_neg c]
    rw [e] at kk
    exact kk (fun u => by omega)
theorem put_d {h : HP} {s a b c : Int} {δ : PL} {P : HP → Prop} (hs : 0 ≤ s ∧ s < 36) (w : wellC a b c) (q : CuD h δ) (k : ∀ h', (∀ k i, ¬ (i = 2 ∧ 13 ≤ k ∧ k ≤ 17) → h' k i = h k i) → CuD h' (putD δ s a b c) → P h') : wX1_put 2 s a b c h P := by
  have hm := wellC_mul w
  unfold wX1_put
  refine ⟨hs, fun h1 e1 => ⟨hs, fun h2 e2 => ⟨hs, fun h3 e3 => ⟨⟨by unfold wellC at w; omega, fun _ => by unfold wellC at w; omega⟩, fun t10 ht10 => ⟨⟨?_, fun _ => ⟨by omega, by omega⟩⟩, fun t15 ht15 => ⟨hs, fun h4 e4 => ⟨hs, fun h5 e5 => ?_⟩⟩⟩⟩⟩⟩⟩
  · have : t10 = 0 ∨ t10 = 1 := by
      by_cases c1 : b = 0
      · exact Or.inr (ht10.1 c1)
      · by_cases c2 : a = c
        · exact Or.inr ((ht10.2 c1).2 c2)
        · exact Or.inl ((ht10.2 c1).1 c2)
    omega
  · have et : t15 = tbend a b c := by
      unfold tbend
      by_cases c1 : b = 0
      · rw [if_pos (Or.inl c1)]; have := ht10.1 c1; exact ht15.2 (by omega)
      · by_cases c2 : a = c
        · rw [if_pos (Or.inr c2)]; have := (ht10.2 c1).2 c2; exact ht15.2 (by omega)
        · rw [if_neg (by omega)]; have := (ht10.2 c1).1 c2; exact ht15.1 (by omega)
    have fr : ∀ k i, ¬ (i = 2 ∧ 13 ≤ k ∧ k ≤ 17) → h5 k i = h k i := by
      intro k i hn
      by_cases y : i = 2
      · rw [e5, up_k (by omega), e4, up_k (by omega), e3, up_k (by omega), e2, up_k (by omega), e1, up_k (by omega)]
      · rw [e5, up_i y, e4, up_i y, e3, up_i y, e2, up_i y, e1, up_i y]
    have g13 : ∀ j, h5 13 2 j = if j = s then a else h 13 2 j := fun j => by rw [e5, up_k (by decide), e4, up_k (by decide), e3, up_k (by decide), e2, up_k (by decide), e1, up_ji]
    have g14 : ∀ j, h5 14 2 j = if j = s then b else h 14 2 j := fun j => by rw [e5, up_k (by decide), e4, up_k (by decide), e3, up_k (by decide), e2, up_ji, e1, up_k (by decide)]
    have g15 : ∀ j, h5 15 2 j = if j = s then c else h 15 2 j := fun j => by rw [e5, up_k (by decide), e4, up_k (by decide), e3, up_ji, e2, up_k (by decide), e1, up_k (by decide)]
    have g16 : ∀ j, h5 16 2 j = if j = s then tbend a b c else h 16 2 j := fun j => by rw [e5, up_k (by decide), e4, up_ji, e3, up_k (by decide), e2, up_k (by decide), e1, up_k (by decide), et]
    have g17 : ∀ j, h5 17 2 j = if j = s then 0 else h 17 2 j := fun j => by rw [e5, up_ji, e4, up_k (by decide), e3, up_k (by decide), e2, up_k (by decide), e1, up_k (by decide)]
    refine k h5 fr (fun j j0 j1 => ?_)
    rw [g13, g14, g15, g16, g17]
    obtain ⟨s6, s7, s8⟩ := putD_s (δ := δ) (s := s) (a := a) (b := b) (c := c)
    by_cases y : j = s
    · subst y
      rw [s6, s7, s8, if_pos rfl, if_pos rfl, if_pos rfl, if_pos rfl, if_pos rfl]
      exact ⟨rfl, rfl, fun _ => ⟨rfl, rfl, rfl⟩⟩
    · rw [if_neg y, if_neg y, if_neg y, if_neg y, if_neg y, putD_o y, putD_o y, putD_o y]
      exact q j j0 j1
theorem PlanC.cgP {h : HP} {i : Int} {δ δ' : PL} (q : PlanC h i δ) (e : ∀ k, k < 6 → δ' k = δ k) : PlanC h i δ' := by
  have kk : ∀ x m, kidN δ' x m = kidN δ x m := fun x m => kidN_cg m (fun c _ _ => by rw [e 1 (by omega)])
  obtain ⟨q1, q2, q3, q4⟩ := q
  refine ⟨?_, fun c c0 c1 => ?_, fun c hc => ?_, fun f f0 f1 => ?_⟩
  · rw [e 0 (by omega)]; exact q1
  · rw [e 0 (by omega)] at c1
    rw [kk, e 1 (by omega)]; exact q2 c c0 c1
  · rw [kids_cg (by rw [e 0 (by omega)]) (e 1 (by omega))]; exact q3 c hc
  · rw [e 0 (by omega)] at f1
    rw [e 2 (by omega), e 3 (by omega), e 4 (by omega), e 5 (by omega)]; exact q4 f f0 f1
theorem TkC.cg {h h' : HP} {t : TK} (q : TkC h t) (e : h' 9 = h 9) : TkC h' t := by unfold TkC at *; rw [e]; exact q
theorem TxC.cg {h h' : HP} {T : Int → Int} {n : Int} (q : TxC h T n) (e : h' 9 = h 9) (e2 : h' 45 0 = h 45 0) : TxC h' T n := by unfold TxC at *; rw [e, e2]; exact q
theorem put_b {h0 h : HP} {T : Int → Int} {n c k a b d : Int} {t : TK} {δ : PL} {P : HP → Prop} (q : RcC h0 h T n t δ) (hc : δ 0 0 = c + 1 ∧ 0 ≤ c) (hk : 0 ≤ k ∧ k ≤ 2) (w : wellC a b d) (kk : ∀ h', RcC h0 h' T n t (putD δ (3 * c + k) a b d) → P h') : wX1_put 2 (3 * c + k) a b d h P := by
  have n12 := q.num
  obtain ⟨⟨q1, q2, q3⟩, q4, q5, q6, q7⟩ := q
  refine put_d (by omega) w q5 (fun h' f c' => kk h' ⟨⟨q1.cg (by funext i; exact f 9 i (by omega)) (f 45 0 (by omega)), q2.cg (by funext i; exact f 9 i (by omega)), q3⟩, (q4.congr (fun k hk => f k 2 (by omega))).cgP (fun k hk => putD_k hk), c', q6.put hc hk w, fun k i k9 i2 => by rw [f k i (by omega)]; exact q7 k i k9 i2⟩)
theorem readCurve_c {h0 h : HP} {T : Int → Int} {n c kk : Int} {t : TK} {δ : PL} {P : Int → HP → Prop} (q : RcC h0 h T n t δ) (hc : δ 0 0 = c + 1 ∧ 0 ≤ c) (hk : 0 ≤ kk ∧ kk ≤ 2)
    (k : ∀ h' y t' δ', RcC h0 h' T n t' δ' → δ' 0 0 = δ 0 0 → (0 ≤ y ∧ y ≤ 5) → (y ≠ 0 → curD T n (nexT T n t) δ (3 * c + kk) = (y, t', δ')) → (y = 0 → curD T n (nexT T n t) δ (3 * c + kk) = (0, nexT T n t', δ')) → P y h') : wX9_readCurve 0 (3 * c + kk) h P := by
  unfold wX9_readCurve
  refine readNum_c q (by omega) (fun h1 q1 v1 => ?_)
  generalize et1 : nexT T n t = t1 at *
  have r1 := numF_rng (t := t1) (lo := 0) (hi := 100)
  unfold curD at k
  refine ⟨by omega, fun z => ?_, fun z => ?_⟩
  · unfold wX9_readCurve_25
    refine ⟨by omega, fun _ => ?_, fun u => absurd u z⟩
    unfold wX9_readCurve_43
    exact ⟨by omega, fun _ => k h1 _ t1 δ q1 rfl (by omega) (fun _ => by rw [if_pos z]) (fun u => absurd u z), fun u => absurd u z⟩
  · have m1 := numF_0.mp z
    rw [v1 z]
    simp only [if_neg (show ¬ numF t1 0 100 ≠ 0 from fun u => u z)] at k
    refine readNum_c q1 (by omega) (fun h2 q2 v2 => ?_)
    generalize et2 : nexT T n t1 = t2 at *
    have r2 := numF_rng (t := t2) (lo := 0) (hi := 30)
    unfold curD2 at k
    unfold wX9_readCurve_25
    refine ⟨by omega, fun z2 => ?_, fun z2 => ?_⟩
    · unfold wX9_readCurve_43
      exact ⟨by omega, fun _ => k h2 _ t2 δ q2 rfl (by omega) (fun _ => by rw [if_pos z2]) (fun u => absurd u z2), fun u => absurd u z2⟩
    · have m2 := numF_0.mp z2
      rw [v2 z2]
      simp only [if_neg (show ¬ numF t2 0 30 ≠ 0 from fun u => u z2)] at k
      refine readNum_c q2 (by omega) (fun h3 q3 v3 => ?_)
      generalize et3 : nexT T n t2 = t3 at *
      have r3 := numF_rng (t := t3) (lo := 1) (hi := 100)
      unfold curD3 at k
      unfold wX9_readCurve_43
      refine ⟨by omega, fun z3 => k h3 _ t3 δ q3 rfl (by omega) (fun _ => by rw [if_pos z3]) (fun u => absurd u z3), fun z3 => ?_⟩
      have m3 := numF_0.mp z3
      rw [v3 z3]
      simp only [if_neg (show ¬ numF t3 1 100 ≠ 0 from fun u => u z3)] at k
      refine put_b q3 hc hk (by unfold wellC; omega) (fun h9 q9 => ?_)
      rw [z3]
      exact k h9 0 t3 _ q9 (by rw [putD_k (by decide)]) (by omega) (fun u => absurd rfl u) (fun _ => rfl)
theorem readCurves_c {h0 h : HP} {T : Int → Int} {n c : Int} {t : TK} {δ : PL} {P : Int → HP → Prop} (q : RcC h0 h T n t δ) (hc : δ 0 0 = c + 1 ∧ 0 ≤ c)
    (k : ∀ h' y t' δ', RcC h0 h' T n t' δ' → (0 ≤ y ∧ y ≤ 5) → curvesD T n (3 * c) 4 0 t δ = (y, t', δ') → P y h') : wX9_readCurves 0 (3 * c) h P := by
  unfold wX9_readCurves
  have loop : ∀ (f : Nat) (d : Int) (t1 : TK) (δ1 : PL) (hh : HP), f ≤ 4 → RcC h0 hh T n t1 δ1 → δ1 0 0 = c + 1 → curvesD T n (3 * c) f d t1 δ1 = curvesD T n (3 * c) 4 0 t δ →
      wX9_readCurves_4 0 (3 * c) (fun h15 => P 0 h15) (fun h16 => P 1 h16) (fun h17 => P 5 h17) (fun l18 h19 => P l18 h19) (f + 1) d (4 - f) hh := by
    intro f
    induction f with
    | zero =>
      intro d t1 δ1 hh hf q1 n1 e
      rw [wX9_readCurves_4]
      exact ⟨by omega, fun _ => k hh 0 t1 δ1 q1 (by omega) (by rw [← e]; rfl), fun u => absurd (by omega) u⟩
    | succ f ih =>
      intro d t1 δ1 hh hf q1 n1 e
      have kd := q1.kd
      unfold curvesD at e
      rw [wX9_readCurves_4, kd.1]
      refine ⟨by omega, fun u => absurd u (by omega), fun _ => ⟨by omega, fun c3 => ?_, fun c3 => ⟨by omega, fun c7 => ?_, fun c7 => ?_⟩⟩⟩
      · rw [if_pos c3] at e
        exact k hh 0 t1 δ1 q1 (by omega) e.symm
      · rw [if_neg c3, if_neg (show ¬ t1.2.2.1 < 7 by omega)] at e
        have b := bAnd1_all (bShr d (t1.2.2.1 - 7))
        refine ⟨by omega, fun z => ?_, fun z => ?_⟩
        · rw [if_neg (show ¬ bAnd (bShr d (t1.2.2.1 - 7)) 1 = 1 by omega)] at e
          refine readCurve_c q1 ⟨n1, hc.2⟩ (show 0 ≤ t1.2.2.1 - 7 ∧ t1.2.2.1 - 7 ≤ 2 by omega) (fun h9 y t2 δ2 q2 n2 ry f0 f1 => ⟨by omega, fun z2 => ?_, fun z2 => ?_⟩)
          · have ec := f1 z2
            rw [ec] at e
            rw [if_neg (show ¬ ((0 : Int), nexT T n t2, δ2).1 ≠ 0 from fun u => u rfl)] at e
            refine takeTk_c q2 (fun h13 q13 => ?_)
            have := ih (bOr d (bShl 1 (t1.2.2.1 - 7))) (nexT T n t2) δ2 h13 (by omega) q13 (by omega) e
            rw [show (4 : Int) - ((f + 1 : Nat) : Int) + 1 = 4 - (f : Int) by omega]
            exact this
          · have ec := f0 z2
            rw [ec] at e
            rw [if_pos (show (y, t2, δ2).1 ≠ 0 from z2)] at e
            exact k h9 y t2 δ2 q2 ry e.symm
        · rw [if_pos (show bAnd (bShr d (t1.2.2.1 - 7)) 1 = 1 by omega)] at e
          exact k hh 5 t1 δ1 q1 (by omega) e.symm
      · rw [if_neg c3, if_pos (show t1.2.2.1 < 7 by omega)] at e
        exact k hh 1 t1 δ1 q1 (by omega) e.symm
  exact ⟨_, loop 4 0 t δ h (by omega) q hc.1 rfl⟩
theorem mayHold_c {h0 h : HP} {T : Int → Int} {n i : Int} {t : TK} {δ : PL} {P : Int → HP → Prop} (q : RcC h0 h T n t δ) (hi : 0 ≤ i ∧ i ≤ 11) (k : ∀ y, (y = 0 ∨ y = 1) → (y = 1 ↔ holdD δ i) → P y h) : wX8_mayHoldClass 2 i h P := by
  have nm := q.num
  obtain ⟨-, q4, q5, q6, -⟩ := q
  have no : ¬ holdD δ i → P 0 h := fun u => k 0 (Or.inl rfl) ⟨fun v => by omega, fun v => absurd v u⟩
  unfold wX8_mayHoldClass wX8_hasClass
  rw [nm.1]
  refine ⟨⟨by omega, fun _ => ⟨by omega, by omega⟩⟩, fun t4 h4 => ⟨?_, ?_⟩⟩
  · by_cases z : i < 0
    · rw [h4.1 z]; omega
    · by_cases y : δ 0 0 ≤ i
      · rw [(h4.2 z).1 y]; omega
      · rw [(h4.2 z).2 y]; omega
  · have e4 := h4.2 (by omega)
    by_cases y : δ 0 0 ≤ i
    · rw [e4.1 y]
      exact ⟨by omega, fun _ => no (fun u => by have := u.1; omega), fun u => absurd rfl u⟩
    · rw [e4.2 y]
      have cu := q5 (3 * i) (by omega) (by omega)
      have s8 := q6.2.1 (3 * i) (by omega) (by omega)
      refine ⟨by omega, fun u => by omega, fun _ => ?_⟩
      unfold wX1_has
      rw [show i * 3 + 0 = 3 * i by omega, cu.1]
      have rr : -2147483648 ≤ δ 8 (3 * i) ∧ δ 8 (3 * i) < 2147483648 := by
        by_cases u : 0 < δ 8 (3 * i)
        · have w := s8.2 u
          unfold wellC at w; omega
        · omega
      refine ⟨by omega, rr, fun t3 h3 => ⟨?_, ?_⟩⟩
      · by_cases u : δ 8 (3 * i) ≤ 0
        · rw [h3.1 u]; omega
        · rw [h3.2 u]; omega
      · by_cases u : δ 8 (3 * i) ≤ 0
        · rw [h3.1 u]
          refine ⟨by omega, fun _ => ?_, fun v => absurd rfl v⟩
          have loop : ∀ (d : Nat) (j : Int), (δ 0 1 - j).toNat = d → 0 ≤ j → j ≤ δ 0 1 → (∀ f, 0 ≤ f → f < j → δ 2 f ≠ i) → wX8_mayHoldClass_27 2 i h (P 1 h) (P 0 h) (d + 1) j := by
            intro d
            induction d with
            | zero =>
              intro j hd j0 j1 g
              rw [wX8_mayHoldClass_27, nm.2.1]
              exact ⟨by omega, by omega, fun _ => k 1 (Or.inr rfl) ⟨fun _ => ⟨by omega, u, fun f f0 f1 => g f f0 (by omega)⟩, fun _ => rfl⟩, fun v => absurd (by omega) v⟩
            | succ d ih =>
              intro j hd j0 j1 g
              have fl := q4.2.2.2 j j0 (by omega)
              have fr := (q6.1.2.2 j j0 (by omega)).1.1
              rw [wX8_mayHoldClass_27, nm.2.1, fl.1]
              refine ⟨by omega, by omega, fun v => absurd v (by omega), fun _ => ⟨by omega, by omega, by omega, fun v => ih (j + 1) (by omega) (by omega) (by omega) (fun f f0 f1 => ?_), fun v => no (fun w => w.2.2 j j0 (by omega) v)⟩⟩
              by_cases w : f = j
              · rw [w]; exact v
              · exact g f f0 (by omega)
          exact ⟨_, loop _ 0 rfl (by omega) (by omega) (fun f f0 f1 => by omega)⟩
        · rw [h3.2 u]
          exact ⟨by omega, fun v => by omega, fun _ => no (fun v => u v.2.1)⟩
theorem addClass_c {h0 h : HP} {T : Int → Int} {n i : Int} {t : TK} {δ : PL} {P : HP → Prop} (q : RcC h0 h T n t δ) (hn : δ 0 0 < 12) (hi : i = 12 ∨ (0 ≤ i ∧ holdD δ i)) (k : ∀ h', RcC h0 h' T n t (addC δ i) → P h') : wX8_addClass 2 i h P := by
  have nm := q.num
  obtain ⟨⟨q1, q2, q3⟩, q4, q5, q6, q7⟩ := q
  have ri : i = 12 ∨ (0 ≤ i ∧ i < δ 0 0) := by
    rcases hi with u | u
    · exact Or.inl u
    · exact Or.inr ⟨u.1, u.2.1⟩
  have kr : 0 ≤ kidN δ i (δ 0 0).toNat ∧ kidN δ i (δ 0 0).toNat ≤ (δ 0 0).toNat := ⟨(kidN_pos (π := δ) (c := i) (δ 0 0).toNat).1, (kidN_pos (π := δ) (c := i) (δ 0 0).toNat).2.1⟩
  have e38 := q4.2.2.1 i (by omega)
  have ek : kids δ i = kidN δ i (δ 0 0).toNat := rfl
  unfold wX8_addClass
  rw [nm.1]
  refine ⟨by omega, fun h1 e1 => ?_⟩
  have a38 : h1 38 2 i = kids δ i := by rw [e1, up_k (by decide)]; exact e38
  have a8 : h1 8 2 0 = δ 0 0 := by rw [e1, up_k (by decide)]; exact nm.1
  rw [a38, a8]
  refine ⟨by omega, by omega, fun h4 e4 => ⟨by omega, by omega, fun h7 e7 => ?_⟩⟩
  have k7 : ∀ k, k ≠ 37 → k ≠ 38 → k ≠ 39 → h7 k = h k := fun k k1 k2 k3 => by rw [e7, up_k k2, e4, up_k k3, e1, up_k k1]
  have i7 : ∀ k j, j ≠ 2 → h7 k j = h k j := fun k j hj => by rw [e7, up_i hj, e4, up_i hj, e1, up_i hj]
  rw [k7 8 (by decide) (by decide) (by decide), nm.1, show δ 0 0 * 3 + 1 = 3 * δ 0 0 + 1 by omega]
  refine put_d (by omega) (by unfold wellC; omega) (q5.cg (fun k k1 k2 => by rw [k7 k (by omega) (by omega) (by omega)])) (fun h9 f9 c9 h10 e10 => ?_)
  have k10 : ∀ k, k ≠ 8 → ¬ (13 ≤ k ∧ k ≤ 17) → h10 k 2 = h7 k 2 := fun k k1 k2 => by rw [e10, up_k k1]; exact f9 k 2 (by omega)
  have g37 : ∀ j, h10 37 2 j = if j = δ 0 0 then i else h 37 2 j := fun j => by rw [k10 37 (by decide) (by decide), e7, up_k (by decide), e4, up_k (by decide), e1, up_ji]
  have g38 : ∀ j, h10 38 2 j = if j = i then kids δ i + 1 else h 38 2 j := fun j => by
    rw [k10 38 (by decide) (by decide), e7, up_ji, e4, up_k (by decide), a38, e1, up_k (by decide)]
  have g39 : ∀ j, h10 39 2 j = if j = i * 12 + kids δ i then δ 0 0 else h 39 2 j := fun j => by rw [k10 39 (by decide) (by decide), e7, up_k (by decide), e4, up_ji, e1, up_k (by decide)]
  have a0 := addC_0 (δ := δ) (i := i)
  have akn : ∀ x (m : Nat), (m : Int) ≤ δ 0 0 → kidN (addC δ i) x m = kidN δ x m := fun x m hm => kidN_cg m (fun c c0 c1 => by rw [addC_1, if_neg (by omega)])
  refine k h10 ⟨⟨q1.cg (by funext j; rw [e10, up_k (by decide), f9 9 j (by omega), k7 9 (by decide) (by decide) (by decide)]) (by rw [e10, up_k (by decide), f9 45 0 (by omega), k7 45 (by decide) (by decide) (by decide)]), q2.cg (by funext j; rw [e10, up_k (by decide), f9 9 j (by omega), k7 9 (by decide) (by decide) (by decide)]), q3⟩, ⟨⟨?_, ?_⟩, fun c c0 c1 => ?_, fun c hc => ?_, fun f f0 f1 => ?_⟩, fun s s0 s1 => ?_, q6.cls hn hi, fun k j k9 j2 => ?_⟩
  · rw [a0.1, e10, up_eq, f9 8 2 (by omega), k7 8 (by decide) (by decide) (by decide), nm.1]
  · rw [a0.2, e10, up_j (by decide), f9 8 2 (by omega), k7 8 (by decide) (by decide) (by decide)]; exact nm.2.1
  · rw [a0.1] at c1
    rw [g37, g39, akn _ _ (by omega), addC_1]
    by_cases e : c = δ 0 0
    · rw [if_pos e, if_pos e, e, if_pos (by rw [ek])]
      exact ⟨rfl, rfl⟩
    · rw [if_neg e, if_neg e]
      have o := q4.2.1 c c0 (by omega)
      have pr := q6.1.1.2.2 c c0 (by omega)
      have kc : 0 ≤ kidN δ (δ 1 c) c.toNat ∧ kidN δ (δ 1 c) c.toNat ≤ c.toNat := ⟨(kidN_pos (π := δ) (c := δ 1 c) c.toNat).1, (kidN_pos (π := δ) (c := δ 1 c) c.toNat).2.1⟩
      have ne : ¬ δ 1 c * 12 + kidN δ (δ 1 c) c.toNat = i * 12 + kids δ i := by
        by_cases w : δ 1 c = i
        · have ec : ((c.toNat : Nat) : Int) = c := by omega
          have := kidN_lt (π := δ) (c := i) (m := c.toNat) (by rw [ec]; exact w) (by omega)
          rw [w]; omega
        · omega
      rw [if_neg ne]; exact o
  · rw [g38, addC_kids nm.2.2.1.1]
    by_cases e : c = i
    · rw [if_pos e, e, if_pos rfl]
    · rw [if_neg e, if_neg (fun u => e u.symm), q4.2.2.1 c hc]; omega
  · rw [a0.2] at f1
    rw [k10 40 (by decide) (by decide), k10 41 (by decide) (by decide), k10 42 (by decide) (by decide), k10 43 (by decide) (by decide), k7 40 (by decide) (by decide) (by decide), k7 41 (by decide) (by decide) (by decide), k7 42 (by decide) (by decide) (by decide), k7 43 (by decide) (by decide) (by decide), addC_k (k := 2) (by decide) (by decide) (by decide), addC_k (k := 3) (by decide) (by decide) (by decide), addC_k (k := 4) (by decide) (by decide) (by decide), addC_k (k := 5) (by decide) (by decide) (by decide)]
    exact q4.2.2.2 f f0 f1
  · have c := c9 s s0 s1
    obtain ⟨a6, a7, a8'⟩ := addC_s (δ := δ) (i := i)
    obtain ⟨s6, s7, s8⟩ := putD_s (δ := δ) (s := 3 * δ 0 0 + 1) (a := 10) (b := 0) (c := 10)
    have u : ∀ k, k ≠ 8 → h10 k = h9 k := fun k hk => by rw [e10, up_k hk]
    rw [u 13 (by decide), u 14 (by decide), u 15 (by decide), u 16 (by decide), u 17 (by decide)]
    by_cases e : s = 3 * δ 0 0 + 1
    · subst e
      rw [s6, s7, s8] at c
      rw [a6, a7, a8']; exact c
    · rw [putD_o e, putD_o e, putD_o e] at c
      rw [addC_o (by decide) e, addC_o (by decide) e, addC_o (by decide) e]; exact c
  · rw [e10, up_x (by omega), f9 k j (by omega), e7, up_x (by omega), e4, up_x (by omega), e1, up_x (by omega)]; exact q7 k j k9 j2
theorem addFlow_c {h0 h : HP} {T : Int → Int} {n l e p z : Int} {t : TK} {δ : PL} {P : HP → Prop} (q : RcC h0 h T n t δ) (hn : δ 0 1 < 8) (hl : 0 ≤ l ∧ l < δ 0 0) (hk : kids δ l = 0) (he : 1 ≤ e ∧ e ≤ 200) (hp : 0 ≤ p ∧ p ≤ 199) (hz : 1 ≤ z ∧ z ≤ 64) (k : ∀ h', RcC h0 h' T n t (addF δ l e p z) → P h') : wX8_addFlow 2 l e p z h P := by
  have nm := q.num
  obtain ⟨⟨q1, q2, q3⟩, q4, q5, q6, q7⟩ := q
  unfold wX8_addFlow
  rw [nm.2.1]
  refine ⟨by omega, fun h1 e1 => ?_⟩
  have a1 : h1 8 2 1 = δ 0 1 := by rw [e1, up_k (by decide)]; exact nm.2.1
  rw [a1]
  refine ⟨by omega, fun h3 e3 => ?_⟩
  have a3 : h3 8 2 1 = δ 0 1 := by rw [e3, up_k (by decide)]; exact a1
  rw [a3]
  refine ⟨by omega, fun h5 e5 => ?_⟩
  have a5 : h5 8 2 1 = δ 0 1 := by rw [e5, up_k (by decide)]; exact a3
  rw [a5]
  refine ⟨by omega, fun h7 e7 h9 e9 => ?_⟩
  have a7 : h7 8 2 1 = δ 0 1 := by rw [e7, up_k (by decide)]; exact a5
  have k9 : ∀ k, k ≠ 8 → k ≠ 40 → k ≠ 41 → k ≠ 42 → k ≠ 43 → h9 k = h k := fun k k1 k2 k3 k4 k5 => by rw [e9, up_k k1, e7, up_k k5, e5, up_k k4, e3, up_k k3, e1, up_k k2]
  have g40 : ∀ j, h9 40 2 j = if j = δ 0 1 then l else h 40 2 j := fun j => by rw [e9, up_k (by decide), e7, up_k (by decide), e5, up_k (by decide), e3, up_k (by decide), e1, up_ji]
  have g41 : ∀ j, h9 41 2 j = if j = δ 0 1 then e else h 41 2 j := fun j => by rw [e9, up_k (by decide), e7, up_k (by decide), e5, up_k (by decide), e3, up_ji, e1, up_k (by decide)]
  have g42 : ∀ j, h9 42 2 j = if j = δ 0 1 then p else h 42 2 j := fun j => by rw [e9, up_k (by decide), e7, up_k (by decide), e5, up_ji, e3, up_k (by decide), e1, up_k (by decide)]
  have g43 : ∀ j, h9 43 2 j = if j = δ 0 1 then z else h 43 2 j := fun j => by rw [e9, up_k (by decide), e7, up_ji, e5, up_k (by decide), e3, up_k (by decide), e1, up_k (by decide)]
  have f0' := addF_0 (δ := δ) (l := l) (e := e) (p := p) (z := z)
  have f1' : addF δ l e p z 1 = δ 1 := addF_k (Or.inl rfl)
  obtain ⟨n2, n3, n4, n5⟩ := addF_n (δ := δ) (l := l) (e := e) (p := p) (z := z)
  have kk : ∀ x m, kidN (addF δ l e p z) x m = kidN δ x m := fun x m => kidN_cg m (fun c _ _ => by rw [f1'])
  refine k h9 ⟨⟨q1.cg (k9 9 (by decide) (by decide) (by decide) (by decide) (by decide)) (by rw [k9 45 (by decide) (by decide) (by decide) (by decide) (by decide)]), q2.cg (k9 9 (by decide) (by decide) (by decide) (by decide) (by decide)), q3⟩, ⟨⟨?_, ?_⟩, fun c c0 c1 => ?_, fun c hc => ?_, fun f f0 f1 => ?_⟩, fun s s0 s1 => ?_, q6.flw hn hl hk he hp hz, fun k j k9' j2 => ?_⟩
  · rw [f0'.1, e9, up_j (by decide), e7, up_k (by decide), e5, up_k (by decide), e3, up_k (by decide), e1, up_k (by decide)]; exact nm.1
  · rw [f0'.2, e9, up_eq, a7]
  · rw [f0'.1] at c1
    rw [k9 37 (by decide) (by decide) (by decide) (by decide) (by decide), k9 39 (by decide) (by decide) (by decide) (by decide) (by decide), kk, f1']; exact q4.2.1 c c0 c1
  · rw [k9 38 (by decide) (by decide) (by decide) (by decide) (by decide), kids_cg f0'.1 f1']; exact q4.2.2.1 c hc
  · rw [f0'.2] at f1
    rw [g40, g41, g42, g43]
    by_cases w : f = δ 0 1
    · subst w
      rw [if_pos rfl, if_pos rfl, if_pos rfl, if_pos rfl]
      exact ⟨n2.symm, n3.symm, n4.symm, n5.symm⟩
    · rw [if_neg w, if_neg w, if_neg w, if_neg w, addF_o (by decide) w, addF_o (by decide) w, addF_o (by decide) w, addF_o (by decide) w]
      exact q4.2.2.2 f f0 (by omega)
  · rw [k9 13 (by decide) (by decide) (by decide) (by decide) (by decide), k9 14 (by decide) (by decide) (by decide) (by decide) (by decide), k9 15 (by decide) (by decide) (by decide) (by decide) (by decide), k9 16 (by decide) (by decide) (by decide) (by decide) (by decide), k9 17 (by decide) (by decide) (by decide) (by decide) (by decide), addF_k (k := 6) (Or.inr (by decide)), addF_k (k := 7) (Or.inr (by decide)), addF_k (k := 8) (Or.inr (by decide))]
    exact q5 s s0 s1
  · rw [e9, up_x (by omega), e7, up_x (by omega), e5, up_x (by omega), e3, up_x (by omega), e1, up_x (by omega)]; exact q7 k j k9' j2
