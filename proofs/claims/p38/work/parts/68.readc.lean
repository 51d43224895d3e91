theorem readClass_c {h0 h : HP} {T : Int → Int} {n : Int} {t : TK} {δ : PL} {P : Int → HP → Prop} (q : RcC h0 h T n t δ)
    (k : ∀ h' y t' δ', RcC h0 h' T n t' δ' → (0 ≤ y ∧ y ≤ 5) → (y ≠ 0 → classD T n t δ = (y, t', δ')) → (y = 0 → classD T n t δ = curvesD T n (3 * δ 0 0) 4 0 t' δ' ∧ δ' 0 0 = δ 0 0 + 1) → P y h') : wX9_readClass 0 h P := by
  have nm := q.num
  unfold wX9_readClass
  rw [nm.1]
  unfold classD at k
  refine ⟨by omega, fun c12 => takeTk_c q (fun h3 q3 => ?_), fun c12 => k h 2 t δ q (by omega) (fun _ => by rw [if_pos (show 12 ≤ δ 0 0 by omega)]) (fun u => by omega)⟩
  simp only [if_neg (show ¬ 12 ≤ δ 0 0 by omega)] at k
  generalize nexT T n t = t1 at *
  have kd := q3.kd
  unfold class1 at k
  rw [kd.1]
  refine ⟨by omega, fun c6 => ?_, fun c6 => ?_⟩
  · simp only [if_neg c6] at k
    exact addClass_c q3 (by omega) (Or.inl rfl) (fun h6 q6 => k h6 0 t1 _ q6 (by omega) (fun u => absurd rfl u) (fun _ => ⟨rfl, addC_0.1⟩))
  · simp only [if_pos c6] at k
    refine readNum_c q3 (by omega) (fun h7 q7 v7 => ?_)
    generalize nexT T n t1 = t2 at *
    have r2 := numF_rng (t := t2) (lo := 0) (hi := 11)
    unfold class2 at k
    refine ⟨by omega, fun z => ?_, fun z => k h7 _ t2 δ q7 (by omega) (fun _ => by rw [if_pos z]) (fun u => absurd u z)⟩
    have m2 := numF_0.mp z
    simp only [if_neg (show ¬ numF t2 0 11 ≠ 0 from fun u => u z)] at k
    have e6 := v7 z
    rw [e6]
    refine mayHold_c q7 (by omega) (fun y hy hq => ⟨by omega, fun w => ?_, fun w => ?_⟩)
    · have hd := hq.mp (by omega)
      simp only [if_pos hd] at k
      refine takeTk_c q7 (fun h15 q15 => ?_)
      rw [e6]
      exact addClass_c q15 (by omega) (Or.inr ⟨by omega, hd⟩) (fun h16 q16 => k h16 0 _ _ q16 (by omega) (fun u => absurd rfl u) (fun _ => ⟨rfl, addC_0.1⟩))
    · have hd : ¬ holdD δ t2.2.2.2 := fun u => by have := hq.mpr u; omega
      simp only [if_neg hd] at k
      exact k h7 3 t2 δ q7 (by omega) (fun _ => rfl) (fun u => by omega)
theorem flow_out {a b c l : Int} {P : Int → HP → Prop} {h : HP} (hl : l ≠ 0) (rl : 0 ≤ l ∧ l ≤ 5) (k : P l h) : wX9_readFlow_93 0 l a b c P h ∧ wX9_readFlow_75 0 l a b P h ∧ wX9_readFlow_57 0 l a P h ∧ wX9_readFlow_44 0 l a P h := by
  have k93 : ∀ a b c, wX9_readFlow_93 0 l a b c P h := fun a b c => by
    unfold wX9_readFlow_93
    exact ⟨by omega, fun u => absurd u hl, fun _ => k⟩
  have k75 : ∀ a b, wX9_readFlow_75 0 l a b P h := fun a b => by
    unfold wX9_readFlow_75
    exact ⟨by omega, fun _ => k93 _ _ _, fun u => absurd u hl⟩
  have k57 : ∀ a, wX9_readFlow_57 0 l a P h := fun a => by
    unfold wX9_readFlow_57
    exact ⟨by omega, fun _ => k75 _ _, fun u => absurd u hl⟩
  refine ⟨k93 _ _ _, k75 _ _, k57 _, ?_⟩
  unfold wX9_readFlow_44
  exact ⟨by omega, fun _ => k57 _, fun u => absurd u hl⟩
theorem hasLeafD_c {h0 h : HP} {T : Int → Int} {n i : Int} {t : TK} {δ : PL} {P : Int → HP → Prop} (q : RcC h0 h T n t δ) (hi : 0 ≤ i ∧ i ≤ 11) (k : ∀ y, (y = 0 ∨ y = 1) → (y = 1 ↔ i < δ 0 0 ∧ kids δ i = 0) → P y h) : wX8_hasLeaf 2 i h P := by
  have nm := q.num
  unfold wX8_hasLeaf wX8_hasClass
  rw [nm.1]
  refine ⟨⟨by omega, fun _ => ⟨by omega, by omega⟩⟩, fun t4 h4 => ⟨?_, ?_⟩⟩
  · by_cases z : i < 0
    · rw [h4.1 z]; omega
    · by_cases y : δ 0 0 ≤ i
      · rw [(h4.2 z).1 y]; omega
      · rw [(h4.2 z).2 y]; omega
  · have e4 := h4.2 (by omega)
    by_cases y : δ 0 0 ≤ i
    · rw [e4.1 y]
      exact ⟨by omega, fun _ => k 0 (Or.inl rfl) ⟨fun u => by omega, fun u => by omega⟩, fun u => absurd rfl u⟩
    · rw [e4.2 y]
      exact ⟨by omega, fun u => by omega, fun _ => isLeaf_c q.2.2.2.1.1.1 q.2.1 (by omega) (fun y2 hy2 hq2 => ⟨by omega, fun z2 => k 0 (Or.inl rfl) ⟨fun u => by omega, fun u => by have := hq2.mpr u.2; omega⟩, fun z2 => k 1 (Or.inr rfl) ⟨fun _ => ⟨by omega, hq2.mp (by omega)⟩, fun _ => rfl⟩⟩)⟩
theorem readFlow_c {h0 h : HP} {T : Int → Int} {n : Int} {t : TK} {δ : PL} {P : Int → HP → Prop} (q : RcC h0 h T n t δ)
    (k : ∀ h' y t' δ', RcC h0 h' T n t' δ' → (0 ≤ y ∧ y ≤ 5) → flowD T n t δ = (y, t', δ') → P y h') : wX9_readFlow 0 h P := by
  have nm := q.num
  unfold wX9_readFlow
  rw [nm.2.1]
  unfold flowD at k
  refine ⟨by omega, fun c8 => readNum_c q (by omega) (fun h3 q3 v3 => ?_), fun c8 => k h 2 t δ q (by omega) (by rw [if_pos (show 8 ≤ δ 0 1 by omega)])⟩
  simp only [if_neg (show ¬ 8 ≤ δ 0 1 by omega)] at k
  generalize nexT T n t = t1 at *
  have r1 := numF_rng (t := t1) (lo := 0) (hi := 11)
  unfold flow1 at k
  refine ⟨by omega, fun z => ?_, fun z => ?_⟩
  · simp only [if_pos z] at k
    exact (flow_out (b := 0) (c := 0) z (by omega) (k h3 _ t1 δ q3 (by omega) rfl)).2.2.2
  have m1 := numF_0.mp z
  simp only [if_neg (show ¬ numF t1 0 11 ≠ 0 from fun u => u z)] at k
  rw [v3 z]
  refine hasLeafD_c q3 (by omega) (fun y hy hq => ⟨by omega, fun t31 h31 => ?_⟩)
  by_cases hd : t1.2.2.2 < δ 0 0 ∧ kids δ t1.2.2.2 = 0
  · have y1 := hq.mpr hd
    rw [h31.1 (by omega), z]
    simp only [if_pos hd] at k
    unfold wX9_readFlow_44
    refine ⟨by omega, fun u => absurd rfl u, fun _ => readNum_c q3 (by omega) (fun h26 q26 v26 => ?_)⟩
    generalize nexT T n t1 = t2 at *
    have r2 := numF_rng (t := t2) (lo := 1) (hi := 200)
    unfold flow2 at k
    by_cases z2 : numF t2 1 200 = 0
    · have m2 := numF_0.mp z2
      simp only [if_neg (show ¬ numF t2 1 200 ≠ 0 from fun u => u z2)] at k
      rw [z2]
      unfold wX9_readFlow_57
      rw [v26 z2]
      refine ⟨by omega, fun u => absurd rfl u, fun _ => readNum_c q26 (by omega) (fun h24 q24 v24 => ?_)⟩
      generalize nexT T n t2 = t3 at *
      have r3 := numF_rng (t := t3) (lo := 0) (hi := 199)
      unfold flow3 at k
      by_cases z3 : numF t3 0 199 = 0
      · have m3 := numF_0.mp z3
        simp only [if_neg (show ¬ numF t3 0 199 ≠ 0 from fun u => u z3)] at k
        rw [z3]
        unfold wX9_readFlow_75
        rw [v24 z3]
        refine ⟨by omega, fun u => absurd rfl u, fun _ => readNum_c q24 (by omega) (fun h22 q22 v22 => ?_)⟩
        generalize nexT T n t3 = t4 at *
        have r4 := numF_rng (t := t4) (lo := 1) (hi := 64)
        unfold flow4 at k
        by_cases z4 : numF t4 1 64 = 0
        · have m4 := numF_0.mp z4
          simp only [if_neg (show ¬ numF t4 1 64 ≠ 0 from fun u => u z4)] at k
          rw [z4]
          unfold wX9_readFlow_93
          rw [v22 z4]
          refine ⟨by omega, fun _ => addFlow_c q22 (by omega) (by omega) hd.2 (by omega) (by omega) (by omega) (fun h15 q15 => takeTk_c q15 (fun h16 q16 => ?_)), fun u => absurd rfl u⟩
          have kd := q16.kd
          rw [kd.1]
          refine ⟨by omega, fun t18 h18 => k h16 t18 _ _ q16 ?_ ?_⟩
          · by_cases w : (nexT T n t4).2.2.1 = 3
            · rw [h18.2 w]; omega
            · rw [h18.1 w]; omega
          · by_cases w : (nexT T n t4).2.2.1 = 3
            · rw [h18.2 w, if_pos w]
            · rw [h18.1 w, if_neg w]
        · simp only [if_pos z4] at k
          exact (flow_out z4 (by omega) (k h22 _ t4 δ q22 (by omega) rfl)).1
      · simp only [if_pos z3] at k
        exact (flow_out (c := 0) z3 (by omega) (k h24 _ t3 δ q24 (by omega) rfl)).2.1
    · simp only [if_pos z2] at k
      exact (flow_out (b := 0) (c := 0) z2 (by omega) (k h26 _ t2 δ q26 (by omega) rfl)).2.2.1
  · have y0 : y = 0 := by rcases hy with u | u; exact u; exact absurd (hq.mp u) hd
    rw [h31.2 y0]
    simp only [if_neg hd] at k
    exact (flow_out (b := 0) (c := 0) (by omega) (by omega) (k h3 3 t1 δ q3 (by omega) rfl)).2.2.2
def drf0 : PL := fun _ _ => 0
theorem drf0_ok : DOK drf0 := by
  have kk : ∀ x, kids drf0 x = 0 := fun x => rfl
  refine ⟨⟨⟨?_, ?_, fun c c0 c1 => ?_⟩, ?_, fun f f0 f1 => ?_⟩, fun s s0 s1 => ?_, fun s s0 s1 => rfl, fun c c0 c1 => ?_⟩
  · show (0 : Int) ≤ 0; omega
  · show (0 : Int) ≤ 12; omega
  · have : c < (0 : Int) := c1
    omega
  · show (0 : Int) ≤ 0 ∧ (0 : Int) ≤ 8; omega
  · have : f < (0 : Int) := f1
    omega
  · show (0 : Int) ≤ 0 ∧ ((0 : Int) < 0 → _)
    exact ⟨by omega, fun u => by omega⟩
  · have : c < (0 : Int) := c1
    omega
noncomputable def readA (T : Int → Int) (n : Int) : RD := parseD T n (n + 1).toNat (tokA T n 0) drf0
theorem read_c {h : HP} {T : Int → Int} {n : Int} {P : Int → HP → Prop} (hn : 0 ≤ n ∧ n ≤ 700) (hT : ∀ j, 0 ≤ j → j < n → h 45 0 j = T j) (hB : ∀ j, 0 ≤ j → j < n → 0 ≤ T j ∧ T j ≤ 255)
    (k : ∀ h' y t' δ', RcC h h' T n t' δ' → (0 ≤ y ∧ y ≤ 5) → readA T n = (y, t', δ') → P y h') : wX9_read 0 n h P := by
  unfold wX9_read wX8_clear
  intro h1 e1 h2 e2 h3 e3 h4 e4
  refine fill_c (n := 13) rfl rfl (by omega) (fun h5 f5 g5 => clearC_s (fun h6 f6 g6 => ?_))
  have k6 : ∀ k i, k ≠ 9 → (i ≠ 2 ∨ 44 ≤ k ∨ k = 12) → h6 k i = h k i := fun k i k9 i2 => by rw [f6 k i (by unfold cuK; omega), f5 k i (by omega), e4, up_x (by omega), e3, up_x (by omega), e2, up_k k9, e1, up_k k9]
  have e9 : h6 9 = h2 9 := by
    funext i
    rw [f6 9 i (by unfold cuK; omega), f5 9 i (by omega), e4, up_k (by decide), e3, up_k (by decide)]
  have x6 : TxC h6 T n := by
    refine ⟨?_, hn, fun j j0 j1 => ?_, hB⟩
    · rw [e9, e2, up_j (by decide), e1, up_eq]
    · rw [k6 45 0 (by decide) (by omega)]; exact hT j j0 j1
  refine takeToken_c x6 (p := 0) (by rw [e9, e2, up_eq]) (by omega) (fun h7 f7 x7 t7 => ?_)
  have e82 : h7 8 2 = h4 8 2 := by rw [f7 8 (by decide), f6 8 2 (by unfold cuK; omega), f5 8 2 (by omega)]
  have pl : PlanC h7 2 drf0 := by
    refine ⟨⟨?_, ?_⟩, fun c c0 c1 => ?_, fun c hc => ?_, fun f f0 f1 => ?_⟩
    · rw [e82, e4, up_j (by decide), e3, up_eq]; rfl
    · rw [e82, e4, up_eq]; rfl
    · have : c < (0 : Int) := c1
      omega
    · rw [f7 38 (by decide), f6 38 2 (by unfold cuK; omega)]; exact g5 c hc.1 (by omega)
    · have : f < (0 : Int) := f1
      omega
  have cu : CuD h7 drf0 := fun s s0 s1 => by
    have := g6 s s0 s1
    rw [f7 15 (by decide), f7 17 (by decide)]
    exact ⟨this.1, this.2, fun u => absurd u (by show ¬ (0 : Int) < 0; omega)⟩
  have tr := tokA_rng (T := T) (n := n) (p := 0) hn.1
  have q7 : RcC h h7 T n (tokA T n 0) drf0 := ⟨⟨x7, t7, by unfold tOK; exact ⟨by omega, tr.2.1, tr.2.2.1, tr.2.2.2⟩⟩, pl, cu, drf0_ok, fun k i k9 i2 => by rw [f7 k k9]; exact k6 k i k9 i2⟩
  unfold readA at k
  generalize hR : parseD T n (n + 1).toNat (tokA T n 0) drf0 = R at *
  have loop : ∀ (f : Nat) (t : TK) (δ : PL) (hh : HP), f ≤ n + 1 → RcC h hh T n t δ → parseD T n f t δ = R → wX9_read_23 0 n (fun h26 => P 0 h26) (fun l27 h28 => P l27 h28) (f + 1) (n + 1 - f) hh := by
    intro f
    induction f with
    | zero =>
      intro t δ hh hf q e
      rw [wX9_read_23, q.1.1.1]
      exact ⟨by omega, by omega, fun _ => k hh 0 t δ q (by omega) e.symm, fun u => absurd (by omega) u⟩
    | succ f ih =>
      intro t δ hh hf q e
      have kd := q.kd
      have nm := q.num
      unfold parseD at e
      rw [wX9_read_23, q.1.1.1, kd.1]
      refine ⟨by omega, by omega, fun u => absurd u (by omega), fun _ => ⟨by omega, fun c0 => ?_, fun c0 => ?_⟩⟩
      · rw [if_pos c0] at e
        exact k hh 0 t δ q (by omega) e.symm
      rw [if_neg c0] at e
      -- behind a clause
      have tail : ∀ (hx : HP) (y : Int) (t' : TK) (δ' : PL), RcC h hx T n t' δ' → (0 ≤ y ∧ y ≤ 5) → clauseD T n t δ = (y, t', δ') → wX9_read_93 0 n (n + 1 - ((f + 1 : Nat) : Int)) y (fun y2 hy => wX9_read_23 0 n (fun h26 => P 0 h26) (fun l27 h28 => P l27 h28) (f + 1) y2 hy) (fun y3 hy => P y3 hy) hx := by
        intro hx y t' δ' qx ry ec
        rw [ec] at e
        unfold wX9_read_93
        refine ⟨by omega, fun z => takeTk_c qx (fun h16 q16 => ?_), fun z => ?_⟩
        · rw [if_neg (show ¬ (y, t', δ').1 ≠ 0 from fun u => u z)] at e
          have := ih (nexT T n t') δ' h16 (by omega) q16 e
          rw [show n + 1 - ((f + 1 : Nat) : Int) + 1 = n + 1 - (f : Int) by omega]
          exact this
        · rw [if_pos (show (y, t', δ').1 ≠ 0 from z)] at e
          exact k hx y t' δ' qx ry e.symm
      unfold clauseD at tail
      refine ⟨by omega, fun c4 => ⟨by omega, fun c5 => ?_, fun c5 => ?_⟩, fun c4 => ?_⟩
      · simp only [if_neg c4, if_neg c5] at tail
        exact tail hh 1 t δ q (by omega) rfl
      · simp only [if_neg c4, if_pos c5] at tail
        exact readFlow_c q (fun h17 y t' δ' q17 ry ey => tail h17 y t' δ' q17 ry ey)
      · simp only [if_pos c4] at tail
        refine readClass_c q (fun h19 y t' δ' q19 ry e1 e0 => ⟨by omega, fun z => ?_, fun z => ?_⟩)
        · exact tail h19 y t' δ' q19 ry (e1 z)
        · obtain ⟨ec, en⟩ := e0 z
          have n19 := q19.num
          rw [n19.1, en, show (δ 0 0 + 1 - 1) * 3 = 3 * δ 0 0 by omega]
          refine readCurves_c q19 ⟨en, nm.2.2.1.1⟩ (fun h23 y2 t2 δ2 q23 ry2 e2 => ?_)
          unfold wX9_read_76
          exact tail h23 y2 t2 δ2 q23 ry2 (by rw [ec]; exact e2)
  have := loop (n + 1).toNat (tokA T n 0) drf0 h7 (by omega) q7 hR
  rw [show n + 1 - (((n + 1).toNat : Nat) : Int) = 0 by omega] at this
  exact ⟨_, this⟩
