/-! the text: the reference, flows and all -/
theorem flow_st {h0 h : HP} {f l y p : Int} {P : HP → Prop} (s : StR h0 h y p) (f0 : 0 ≤ f ∧ f < 8) (k : ∀ h', StR h0 h' y p → P h') : wX12_readFlow_71 7 f l P h := by
  have := s.2.1
  unfold wX12_readFlow_71
  rw [s.1]
  refine ⟨by omega, fun _ => ?_, fun u => by omega⟩
  unfold wX12_readFlow_82
  refine ⟨by omega, fun h12 e12 => ?_⟩
  have s12 : StR h0 h12 y p := by rw [e12]; exact s.u1 (by omega)
  refine readNum_st s12 ⟨by omega, fun h16 e16 => ?_⟩
  have s16 : StR h0 h16 y p := by rw [e16]; exact s12.u1 (by omega)
  refine readNum_st s16 ⟨by omega, fun h20 e20 => ?_⟩
  have s20 : StR h0 h20 y p := by rw [e20]; exact s16.u1 (by omega)
  refine readNum_st s20 ⟨by omega, fun h24 e24 h26 e26 => ?_⟩
  have s24 : StR h0 h24 y p := by rw [e24]; exact s20.u1 (by omega)
  exact k h26 (by rw [e26]; exact s24.u1 (by omega))
theorem readFlow_b {h0 h : HP} {T : Int → Int} {n : Int} {t : TK} {δ : PL} {P : HP → Prop} (q : RcR h0 h T n t δ (δ 0 0) (-1))
    (k : ∀ h' t' δ', RcR h0 h' T n t' δ' (δ' 0 0) (-1) → flowD T n t δ = (if t'.2.2.1 = 3 then 0 else 1, t', δ') → P h')
    (ks : ∀ h' y t' δ', StR h0 h' y t'.1 → flowD T n t δ = (y, t', δ') → P h') : wX12_readFlow 7 h P := by
  have n8 := q.2.2.2.1.1.2.1
  have n12 := q.2.2.2.1.1.1.2.1
  have n0 := q.2.2.2.1.1.1.1
  unfold wX12_readFlow
  rw [q.2.2.1.1.2]
  unfold flowD at k ks
  by_cases c8 : δ 0 1 = 8
  · refine ⟨by omega, fun u => absurd c8 u, fun _ => wrong_b q (by omega) (fun h51 s51 => ?_)⟩
    unfold wX12_readFlow_16
    rw [s51.1]
    exact ⟨by omega, fun u => by omega, fun _ => ks h51 2 t δ s51 (by rw [if_pos (by omega)])⟩
  refine ⟨by omega, fun _ => ?_, fun u => absurd u c8⟩
  simp only [if_neg (show ¬ 8 ≤ δ 0 1 by omega)] at k ks
  unfold wX12_readFlow_16 wX12_newClasses
  rw [q.2.1]
  refine ⟨by omega, fun _ => step_b q (fun h5 f5 q5 => ?_), fun u => absurd rfl u⟩
  rw [q5.2.2.1.1.2]
  generalize nexT T n t = t1 at *
  unfold flow1 at k ks
  refine numNow_b q5 (by omega) (fun m1 => ?_) (fun h6 m1 s6 => ?_)
  · have w1 := numF_0.mp m1
    simp only [if_neg (show ¬ numF t1 0 11 ≠ 0 from fun u => u m1)] at k ks
    rw [q5.2.1]
    have no : ¬ (t1.2.2.2 < δ 0 0 ∧ kids δ t1.2.2.2 = 0) → wX12_readFlow_66 7 (δ 0 1) t1.2.2.2 P h5 := by
      intro nh
      simp only [if_neg nh] at ks
      unfold wX12_readFlow_66
      exact wrong_b q5 (by omega) (fun h43 s43 => flow_st s43 (by omega) (fun h' s' => ks h' 3 t1 δ s' rfl))
    refine ⟨by omega, fun u => absurd rfl u, fun _ => ?_⟩
    rw [q5.2.2.1.1.1]
    refine ⟨by omega, by omega, fun u => no (fun v => by have := v.1; omega), fun u => newLeaf_b q5 (by omega) (fun y hy hq => ⟨by omega, fun v => ?_, fun v => no (fun w => by have := hq.mpr w.2; omega)⟩)⟩
    have hd : t1.2.2.2 < δ 0 0 ∧ kids δ t1.2.2.2 = 0 := ⟨by omega, hq.mp (by omega)⟩
    simp only [if_pos hd] at k ks
    unfold wX12_readFlow_71
    rw [q5.2.1]
    refine ⟨by omega, fun u => absurd rfl u, fun _ => step_b q5 (fun h27 f27 q27 => ?_)⟩
    generalize nexT T n t1 = t2 at *
    generalize t1.2.2.2 = l at *
    unfold flow2 at k ks
    unfold wX12_readFlow_82
    refine ⟨by omega, fun h12 e12 => ?_⟩
    have q12 : RcR h0 h12 T n t2 δ (δ 0 0) (-1) := by rw [e12]; exact q27.beyond (by omega)
    have a51 : h12 51 7 (8 + δ 0 1) = l := by rw [e12, up_eq]
    refine readNum_b q12 (by omega) (fun h14 f14 m2 q14 => ⟨by omega, fun h16 e16 => ?_⟩) (fun h14 m2 s14 => ⟨by omega, fun h16 e16 => ?_⟩)
    · have w2 := numF_0.mp m2
      simp only [if_neg (show ¬ numF t2 1 200 ≠ 0 from fun u => u m2)] at k ks
      have q16 : RcR h0 h16 T n (nexT T n t2) δ (δ 0 0) (-1) := by rw [e16]; exact q14.beyond (by omega)
      have a16 : h16 51 7 (8 + δ 0 1) = l ∧ h16 52 7 (8 + δ 0 1) = t2.2.2.2 := ⟨by rw [e16, up_k (by decide), f14.1 51 (by decide)]; exact a51, by rw [e16, up_eq]⟩
      generalize nexT T n t2 = t3 at *
      generalize t2.2.2.2 = e at *
      unfold flow3 at k ks
      refine readNum_b q16 (by omega) (fun h18 f18 m3 q18 => ⟨by omega, fun h20 e20 => ?_⟩) (fun h18 m3 s18 => ⟨by omega, fun h20 e20 => ?_⟩)
      · have w3 := numF_0.mp m3
        simp only [if_neg (show ¬ numF t3 0 199 ≠ 0 from fun u => u m3)] at k ks
        have q20 : RcR h0 h20 T n (nexT T n t3) δ (δ 0 0) (-1) := by rw [e20]; exact q18.beyond (by omega)
        have a20 : h20 51 7 (8 + δ 0 1) = l ∧ h20 52 7 (8 + δ 0 1) = e ∧ h20 53 7 (8 + δ 0 1) = t3.2.2.2 := ⟨by rw [e20, up_k (by decide), f18.1 51 (by decide)]; exact a16.1, by rw [e20, up_k (by decide), f18.1 52 (by decide)]; exact a16.2, by rw [e20, up_eq]⟩
        generalize nexT T n t3 = t4 at *
        generalize t3.2.2.2 = p at *
        unfold flow4 at k ks
        refine readNum_b q20 (by omega) (fun h22 f22 m4 q22 => ⟨by omega, fun h24 e24 h26 e26 => ?_⟩) (fun h22 m4 s22 => ⟨by omega, fun h24 e24 h26 e26 => ?_⟩)
        · have w4 := numF_0.mp m4
          simp only [if_neg (show ¬ numF t4 1 64 ≠ 0 from fun u => u m4)] at k
          have q24 : RcR h0 h24 T n (nexT T n t4) δ (δ 0 0) (-1) := by rw [e24]; exact q22.beyond (by omega)
          have a24 : h24 51 7 (8 + δ 0 1) = l ∧ h24 52 7 (8 + δ 0 1) = e ∧ h24 53 7 (8 + δ 0 1) = p ∧ h24 54 7 (8 + δ 0 1) = t4.2.2.2 := ⟨by rw [e24, up_k (by decide), f22.1 51 (by decide)]; exact a20.1, by rw [e24, up_k (by decide), f22.1 52 (by decide)]; exact a20.2.1, by rw [e24, up_k (by decide), f22.1 53 (by decide)]; exact a20.2.2, by rw [e24, up_eq]⟩
          have m24 : h24 49 7 3 = δ 0 1 := q24.2.2.1.1.2
          refine k h26 (nexT T n t4) (addF δ l e p t4.2.2.2) ?_ rfl
          obtain ⟨⟨x, tk, o⟩, b, ⟨d1, d2, d3, d4⟩, dk, fx⟩ := q24
          have f0' := addF_0 (δ := δ) (l := l) (e := e) (p := p) (z := t4.2.2.2)
          have f1' : addF δ l e p t4.2.2.2 1 = δ 1 := addF_k (Or.inl rfl)
          obtain ⟨b2, b3, b4, b5⟩ := addF_n (δ := δ) (l := l) (e := e) (p := p) (z := t4.2.2.2)
          have k26 : ∀ k, k ≠ 49 → h26 k = h24 k := fun k hk => by rw [e26, up_k hk]
          refine ⟨⟨x.cg (k26 12 (by decide)) (k26 58 (by decide)), tk.cg (k26 12 (by decide)), o⟩, by rw [k26 12 (by decide)]; exact b, ⟨⟨by rw [f0'.1, e26, up_j (by decide)]; exact d1.1, by rw [f0'.2, e26, up_eq, m24]⟩, by rw [f0'.1, f1', k26 50 (by decide)]; exact d2, fun f x0 x1 => ?_, fun c' k' a0 a1 b0 b1 ne => ?_⟩, dk.flw (by omega) (by omega) hd.2 (by omega) (by omega) (by omega), by rw [e26]; exact fx.u1 (by omega)⟩
          · rw [f0'.2] at x1
            rw [k26 51 (by decide), k26 52 (by decide), k26 53 (by decide), k26 54 (by decide)]
            by_cases w : f = δ 0 1
            · subst w
              rw [b2, b3, b4, b5]; exact a24
            · rw [addF_o (by decide) w, addF_o (by decide) w, addF_o (by decide) w, addF_o (by decide) w]
              exact d3 f x0 (by omega)
          · rw [f0'.1] at a1
            have := d4 c' k' a0 a1 b0 b1 ne
            unfold CvR at *
            rw [addF_k (k := 6) (Or.inr (by decide)), addF_k (k := 7) (Or.inr (by decide)), addF_k (k := 8) (Or.inr (by decide)), k26 55 (by decide)]; exact this
        · simp only [if_pos m4] at ks
          have s24 : StR h0 h24 (numF t4 1 64) t4.1 := by rw [e24]; exact s22.u1 (by omega)
          exact ks h26 _ t4 δ (by rw [e26]; exact s24.u1 (by omega)) rfl
      · simp only [if_pos m3] at ks
        have s20 : StR h0 h20 (numF t3 0 199) t3.1 := by rw [e20]; exact s18.u1 (by omega)
        refine readNum_st s20 ⟨by omega, fun h24 e24 h26 e26 => ?_⟩
        have s24 : StR h0 h24 (numF t3 0 199) t3.1 := by rw [e24]; exact s20.u1 (by omega)
        exact ks h26 _ t3 δ (by rw [e26]; exact s24.u1 (by omega)) rfl
    · simp only [if_pos m2] at ks
      have s16 : StR h0 h16 (numF t2 1 200) t2.1 := by rw [e16]; exact s14.u1 (by omega)
      refine readNum_st s16 ⟨by omega, fun h20 e20 => ?_⟩
      have s20 : StR h0 h20 (numF t2 1 200) t2.1 := by rw [e20]; exact s16.u1 (by omega)
      refine readNum_st s20 ⟨by omega, fun h24 e24 h26 e26 => ?_⟩
      have s24 : StR h0 h24 (numF t2 1 200) t2.1 := by rw [e24]; exact s20.u1 (by omega)
      exact ks h26 _ t2 δ (by rw [e26]; exact s24.u1 (by omega)) rfl
  · simp only [if_pos m1] at ks
    have := s6.2.1
    rw [s6.1]
    exact ⟨by omega, fun _ => flow_st s6 (by omega) (fun h' s' => ks h' _ t1 δ s' rfl), fun u => absurd u (by omega)⟩
theorem readClause_b {h0 h : HP} {T : Int → Int} {n : Int} {t : TK} {δ : PL} {P : HP → Prop} (q : RcR h0 h T n t δ (δ 0 0) (-1))
    (k : ∀ h' t' δ', clauseD T n t δ = (0, t', δ') → tOK n t' → t'.2.2.1 = 3 → RcR h0 h' T n (nexT T n t') δ' (δ' 0 0) (-1) → P h')
    (ks : ∀ h' y t' δ', StR h0 h' y t'.1 → clauseD T n t δ = (y, t', δ') → P h') : wX12_readClause 7 h P := by
  have tk := q.1
  unfold clauseD at k ks
  have good : ∀ (hx : HP) (tx : TK) (δx : PL) (r : RD), RcR h0 hx T n tx δx (δx 0 0) (-1) → r = (if tx.2.2.1 = 3 then 0 else 1, tx, δx) → (∀ h' t' δ', r = (0, t', δ') → tOK n t' → t'.2.2.1 = 3 → RcR h0 h' T n (nexT T n t') δ' (δ' 0 0) (-1) → P h') → (∀ h' y t' δ', StR h0 h' y t'.1 → r = (y, t', δ') → P h') → wX12_readClause_37 7 P hx := by
    intro hx tx δx r qx er kk kks
    obtain ⟨c1, c2, c3, c4, c5, c6⟩ := qx.1.2.1.2.2.2.1
    unfold wX12_readClause_37
    rw [qx.2.1]
    refine ⟨by omega, fun u => absurd rfl u, fun _ => ⟨by omega, fun z => ⟨by omega, fun u => absurd rfl u, fun _ => step_b qx (fun h19 f19 q19 => ?_)⟩, fun z => wrong_b qx (by omega) (fun h20 s20 => ?_)⟩⟩
    · have e3 : tx.2.2.1 = 3 := c4.mp z
      rw [if_pos e3] at er
      exact kk h19 tx δx er qx.1.2.2 e3 q19
    · have e3 : ¬ tx.2.2.1 = 3 := fun u => z (c4.mpr u)
      rw [if_neg e3] at er
      rw [s20.1]
      exact ⟨by omega, fun _ => kks h20 1 tx δx s20 er, fun u => absurd u (by omega)⟩
  have stuck : ∀ (hx : HP) (y p : Int), StR h0 hx y p → P hx → wX12_readClause_37 7 P hx := by
    intro hx y p sx px
    have := sx.2.1
    unfold wX12_readClause_37
    rw [sx.1]
    exact ⟨by omega, fun _ => ⟨by omega, fun _ => px, fun u => by omega⟩, fun u => by omega⟩
  unfold wX12_readClause
  refine is_r tk.1 tk.2.1 q.2.1 tk.2.2.1 (by omega) (fun y hy hq => ⟨by omega, fun z => ?_, fun z => ?_⟩)
  · have c4 : ¬ t.2.2.1 = 4 := fun u => by have := hq.mpr u; omega
    simp only [if_neg c4] at k ks
    refine is_r tk.1 tk.2.1 q.2.1 tk.2.2.1 (by omega) (fun y2 hy2 hq2 => ⟨by omega, fun z2 => ?_, fun z2 => ?_⟩)
    · have c5 : ¬ t.2.2.1 = 5 := fun u => by have := hq2.mpr u; omega
      simp only [if_neg c5] at ks
      exact wrong_b q (by omega) (fun h9 s9 => stuck h9 _ _ s9 (ks h9 1 t δ s9 rfl))
    · have c5 : t.2.2.1 = 5 := hq2.mp (by omega)
      simp only [if_pos c5] at k ks
      exact readFlow_b q (fun h' t' δ' q' e' => good h' t' δ' _ q' e' k ks) (fun h' y t' δ' s' e' => stuck h' _ _ s' (ks h' y t' δ' s' e'))
  · have c4 : t.2.2.1 = 4 := hq.mp (by omega)
    simp only [if_pos c4] at k ks
    exact readClass_b q (fun h' t' δ' q' e' => good h' t' δ' _ q' e' k ks) (fun h' y t' δ' s' e' => stuck h' _ _ s' (ks h' y t' δ' s' e'))
/-! a clause goes on -/
def Adv (n : Int) (t : TK) (r : RD) : Prop := tOK n r.2.1 ∧ t.1 ≤ r.2.1.1
theorem Adv.rf {n y : Int} {t : TK} {δ : PL} (o : tOK n t) : Adv n t (y, t, δ) := ⟨o, Int.le_refl _⟩
theorem nx_le {T : Int → Int} {n : Int} {t : TK} (o : tOK n t) : t.1 ≤ (nexT T n t).1 := by
  have := (o.next (T := T)).2
  have := o.1
  omega
theorem Adv.nx {T : Int → Int} {n y : Int} {t : TK} {δ : PL} (o : tOK n t) : Adv n t (y, nexT T n t, δ) := ⟨o.next.1, nx_le o⟩
theorem Adv.st {n : Int} {t t' : TK} {r : RD} (h : t.1 ≤ t'.1) (a : Adv n t' r) : Adv n t r := ⟨a.1, Int.le_trans h a.2⟩
theorem adv3 {T : Int → Int} {n a b s : Int} {t : TK} {δ : PL} (o : tOK n t) : Adv n t (curD3 T n t a b δ s) := by
  unfold curD3
  split
  · exact Adv.rf o
  · exact Adv.nx o
theorem adv2 {T : Int → Int} {n a s : Int} {t : TK} {δ : PL} (o : tOK n t) : Adv n t (curD2 T n t a δ s) := by
  unfold curD2
  split
  · exact Adv.rf o
  · exact (adv3 o.next.1).st (nx_le o)
theorem adv1 {T : Int → Int} {n s : Int} {t : TK} {δ : PL} (o : tOK n t) : Adv n t (curD T n t δ s) := by
  unfold curD
  split
  · exact Adv.rf o
  · exact (adv2 o.next.1).st (nx_le o)
theorem advC {T : Int → Int} {n b : Int} : ∀ (f : Nat) (d : Int) (t : TK) (δ : PL), tOK n t → Adv n t (curvesD T n b f d t δ) := by
  intro f
  induction f with
  | zero => intro d t δ o; exact Adv.rf o
  | succ f ih =>
    intro d t δ o
    unfold curvesD
    split
    · exact Adv.rf o
    · split
      · exact Adv.rf o
      · split
        · exact Adv.rf o
        · have a := (adv1 (T := T) (s := b + (t.2.2.1 - 7)) (δ := δ) (o.next (T := T)).1).st (nx_le o)
          split
          · exact a
          · exact (ih _ _ _ a.1).st a.2
theorem advClass {T : Int → Int} {n : Int} {t : TK} {δ : PL} (o : tOK n t) : Adv n t (classD T n t δ) := by
  unfold classD
  split
  · exact Adv.rf o
  · refine Adv.st (nx_le (T := T) o) ?_
    have o1 := (o.next (T := T)).1
    generalize nexT T n t = t1 at *
    unfold class1
    split
    · refine Adv.st (nx_le (T := T) o1) ?_
      have o2 := (o1.next (T := T)).1
      generalize nexT T n t1 = t2 at *
      unfold class2
      split
      · exact Adv.rf o2
      · split
        · exact (advC _ _ _ _ o2.next.1).st (nx_le o2)
        · exact Adv.rf o2
    · exact advC _ _ _ _ o1
theorem advFlow {T : Int → Int} {n : Int} {t : TK} {δ : PL} (o : tOK n t) : Adv n t (flowD T n t δ) := by
  unfold flowD
  split
  · exact Adv.rf o
  · refine Adv.st (nx_le (T := T) o) ?_
    have o1 := (o.next (T := T)).1
    generalize nexT T n t = t1 at *
    unfold flow1
    split
    · exact Adv.rf o1
    · split
      · refine Adv.st (nx_le (T := T) o1) ?_
        have o2 := (o1.next (T := T)).1
        generalize nexT T n t1 = t2 at *
        unfold flow2
        split
        · exact Adv.rf o2
        · refine Adv.st (nx_le (T := T) o2) ?_
          have o3 := (o2.next (T := T)).1
          generalize nexT T n t2 = t3 at *
          unfold flow3
          split
          · exact Adv.rf o3
          · refine Adv.st (nx_le (T := T) o3) ?_
            have o4 := (o3.next (T := T)).1
            generalize nexT T n t3 = t4 at *
            unfold flow4
            split
            · exact Adv.rf o4
            · exact Adv.nx o4
      · exact Adv.rf o1
theorem advClause {T : Int → Int} {n : Int} {t : TK} {δ : PL} (o : tOK n t) : Adv n t (clauseD T n t δ) := by
  unfold clauseD
  split
  · exact advClass o
  · split
    · exact advFlow o
    · exact Adv.rf o
theorem parse_b {h0 : HP} {T : Int → Int} {n a : Int} {Ko : HP → Prop} {R : RD}
    (k : ∀ h' t' δ', RcR h0 h' T n t' δ' (δ' 0 0) (-1) → R = (0, t', δ') → Ko h') (ks : ∀ h' y t' δ', StR h0 h' y t'.1 → R = (y, t', δ') → Ko h') :
    ∀ (f : Nat) (t : TK) (δ : PL) (hh : HP), n - t.1 < f → RcR h0 hh T n t δ (δ 0 0) (-1) → parseD T n f t δ = R → wX12_link_66 7 a Ko (f + 1) hh := by
  intro f
  induction f with
  | zero =>
    intro t δ hh hf q e
    have := q.1.2.2.1
    omega
  | succ f ih =>
    intro t δ hh hf q e
    obtain ⟨c1, c2, c3, c4, c5, c6⟩ := q.1.2.1.2.2.2.1
    have o := q.1.2.2
    unfold parseD at e
    rw [wX12_link_66, q.2.1]
    refine ⟨by omega, fun u => absurd rfl u, fun _ => ⟨by omega, fun z => ?_, fun z => ?_⟩⟩
    · have e0 : t.2.2.1 = 0 := c2.mp z
      rw [if_pos e0] at e
      exact k hh t δ q e.symm
    · have e0 : ¬ t.2.2.1 = 0 := fun u => z (c2.mpr u)
      rw [if_neg e0] at e
      refine readClause_b q (fun h21 t' δ' ec ot e3 q21 => ?_) (fun h21 y t' δ' s21 ec => ?_)
      · have av := (advClause (T := T) (δ := δ) o).2
        rw [ec] at e av
        rw [if_neg (show ¬ ((0 : Int), t', δ').1 ≠ 0 from fun u => u rfl)] at e
        have nx := (ot.next (T := T)).2
        have o3 := ot.2.2.1 (by omega)
        have av' : t.1 ≤ t'.1 := av
        exact ih (nexT T n t') δ' h21 (by omega) q21 e
      · rw [ec] at e
        have := s21.2.1
        rw [if_pos (show (y, t', δ').1 ≠ 0 by show y ≠ 0; omega)] at e
        rw [wX12_link_66, s21.1]
        exact ⟨by omega, fun _ => ks h21 y t' δ' s21 e.symm, fun u => by omega⟩
