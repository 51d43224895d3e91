/-! the reference's link in the world -/
theorem link_r {h : HP} {π : PL} {K n : Int} {s : SD} {im : IM} {t : TX} {P : Int → HP → Prop} (w : WA π K s im t) (ri : RI h π s im t) (hn : inR n)
    (k : ∀ h' δ tk, FrRf h h' → h' 77 = h 77 → h' 12 7 1 = 0 → (0 ≤ n ∧ n ≤ t.1) → readA t.2.1 n = (0, tk, δ) → (∀ g, RI h' δ (st0 δ g, 0, s.2.2.1, 0, s.2.2.2.2) (0, im.2) (0, t.2.1, -1, t.2.2.2)) → P 0 h')
    (kf : ∀ h' y δ tk, FrRf h h' → h' 77 = h 77 → h' 12 7 1 = 0 → (0 ≤ n ∧ n ≤ t.1) → y ≠ 0 → readA t.2.1 n = (y, tk, δ) → RI h' π s im (0, t.2.1, tk.1, (refT t 0).2.2.2) → P y h')
    (kx : ∀ h', FrRf h h' → h' 12 7 1 = 1 → ¬ (0 ≤ n ∧ n ≤ t.1) → RI h' π s im t → P 0 h') : wX12_link 7 n h P := by
  have hp := w.1
  have n12 := hp.1.2.1
  have n8 := hp.2.1
  have w6 := w.2.2.2.2.2
  have wt := w.2.2.2.2.1
  obtain ⟨q1, ⟨s1, ⟨p1, p2, p3⟩, s3, s4⟩, ⟨i1, i2⟩, ⟨t1, t2, t3, t4⟩, idl⟩ := id ri
  unfold wX12_link
  intro h1 e1
  have o1 : OkR h h1 0 := by rw [e1]; exact OkR.start idl 0
  have no : ¬ (0 ≤ n ∧ n ≤ t.1) → wX12_fail 7 1 h1 (fun x5 h4 => P x5 h4) := fun nn => fail_r (kx _ (o1.fail 1).1.rfr (o1.fail 1).2.2 nn ((o1.fail 1).ri w ri))
  have m1 : h1 12 7 12 = t.1 := by rw [e1, up_j (by decide)]; exact t1
  rw [m1]
  refine ⟨hn, fun z => no (fun u => by omega), fun z => ⟨hn, by omega, fun z2 h9 e9 h10 e10 h11 e11 h12 e12 h13 e13 h14 e14 h15 e15 => ?_, fun z2 => no (fun u => z2 u.2)⟩⟩
  have rn : 0 ≤ n ∧ n ≤ t.1 := ⟨by omega, z2⟩
  have k15 : ∀ k, k ≠ 12 → k ≠ 49 → h15 k = h k := fun k a b => by rw [e15, up_k b, e14, up_k b, e13, up_k a, e12, up_k a, e11, up_k a, e10, up_k a, e9, up_k a, e1, up_k a]
  have j15 : ∀ j, h15 12 7 j = h13 12 7 j := fun j => by rw [e15, up_k (by decide), e14, up_k (by decide)]
  have x15 : TxR h15 t.2.1 n := by
    refine ⟨?_, by omega, fun j j0 j1 => ?_, fun j j0 j1 => w6 j j0 (by omega)⟩
    · rw [j15, e13, up_j (by decide), e12, up_j (by decide), e11, up_j (by decide), e10, up_eq]
    · rw [k15 58 (by decide) (by decide)]; exact t2 j j0 (by omega)
  have o15 : ∀ j, j ≠ 1 → j ≠ 12 → j ≠ 13 → j ≠ 14 → j ≠ 19 → j ≠ 21 → h15 12 7 j = h 12 7 j := fun j a b c d e f => by
    rw [j15, e13, up_j f, e12, up_j e, e11, up_j c, e10, up_j d, e9, up_j b, e1, up_j a]
  have l49 : ∀ j, j < 2 → h15 49 7 j = h 49 7 j := fun j hj => by
    rw [e15, up_j (by omega), e14, up_j (by omega), e13, up_k (by decide), e12, up_k (by decide), e11, up_k (by decide), e10, up_k (by decide), e9, up_k (by decide), e1, up_k (by decide)]
  refine stepOn_r x15 (p := 0) ?_ (by omega) (fun h16 f16 x16 tk16 => ?_)
  · rw [j15, e13, up_j (by decide), e12, up_j (by decide), e11, up_eq]
  have tr := tokA_rng (T := t.2.1) (n := n) (p := 0) (by omega)
  have q16 : RcR h15 h16 t.2.1 n (tokA t.2.1 n 0) drf0 (drf0 0 0) (-1) := by
    refine ⟨⟨x16, tk16, by unfold tOK; exact ⟨by omega, tr.2.1, tr.2.2.1, tr.2.2.2⟩⟩, ?_, ⟨⟨?_, ?_⟩, fun c c0 c1 => ?_, fun f x0 x1 => ?_, fun c kk c0 c1 _ _ _ => ?_⟩, drf0_ok, FrX.fk ⟨fun _ _ _ => rfl, fun _ _ => rfl, fun _ _ => rfl, fun _ _ => rfl, fun _ _ _ _ _ => rfl⟩ f16⟩
    · rw [f16.2 19 (by unfold tkJ; omega), j15, e13, up_j (by decide), e12, up_eq]
    · rw [f16.1 49 (by decide), e15, up_j (by decide), e14, up_eq]; rfl
    · rw [f16.1 49 (by decide), e15, up_eq]; rfl
    · have : c < (0 : Int) := c1
      omega
    · have : f < (0 : Int) := x1
      omega
    · have : c < (0 : Int) := c1
      omega
  -- what stays, however it ends
  have rf : ∀ hh, FrX h15 hh → FrRf h hh := fun hh fx k a b => by rw [fx.1 k a (by omega), k15 k a (by omega)]
  have c1' : ∀ hh, FrX h15 hh → hh 12 7 1 = 0 := fun hh fx => by
    rw [fx.2.1 1 (by omega), j15, e13, up_j (by decide), e12, up_j (by decide), e11, up_j (by decide), e10, up_j (by decide), e9, up_j (by decide), e1, up_eq]
  have o12 : ∀ hh, FrX h15 hh → ∀ j, j ≠ 1 → j ≠ 12 → ¬ (13 ≤ j ∧ j ≤ 21) → hh 12 7 j = h 12 7 j := fun hh fx j a b c => by
    rw [fx.2.1 j (by omega), o15 j a b (by omega) (by omega) (by omega) (by omega)]
  have m12 : ∀ hh, FrX h15 hh → hh 12 7 12 = 0 ∧ hh 12 7 21 = -1 := fun hh fx => ⟨by
    rw [fx.2.1 12 (by omega), j15, e13, up_j (by decide), e12, up_j (by decide), e11, up_j (by decide), e10, up_j (by decide), e9, up_eq], by
    rw [fx.2.1 21 (by omega), j15, e13, up_eq]⟩
  have k12 : ∀ hh, FrX h15 hh → ∀ k, k ≠ 12 → ¬ (49 ≤ k ∧ k ≤ 55) → hh k = h k := fun hh fx k a b => by rw [fx.1 k a b, k15 k a (by omega)]
  have rest : ∀ h21 y tk δ, StR h15 h21 y tk.1 → readA t.2.1 n = (y, tk, δ) → (∀ h27 : HP, h27 = up h21 12 7 21 (h21 12 7 20) → ∀ h28 : HP, h28 = up h27 57 7 0 ((h27 57 7 0) + 1) → P (h28 12 7 19) h28) := by
    intro h21 y tk δ st er h27 e27 h28 e28
    have fx := st.2.2.2
    have y1 : h28 12 7 19 = y := by rw [e28, up_k (by decide), e27, up_j (by decide)]; exact st.1
    rw [y1]
    have k28 : ∀ k, k ≠ 12 → k ≠ 57 → ¬ (49 ≤ k ∧ k ≤ 55) → h28 k = h k := fun k a b c => by rw [e28, up_k b, e27, up_k a, k12 h21 fx k a c]
    have v28 : ∀ j, j ≠ 21 → h28 12 7 j = h21 12 7 j := fun j hj => by rw [e28, up_k (by decide), e27, up_j hj]
    have o28 : ∀ j, j ≠ 1 → j ≠ 12 → ¬ (13 ≤ j ∧ j ≤ 21) → h28 12 7 j = h 12 7 j := fun j a b c => by rw [v28 j (by omega), o12 h21 fx j a b c]
    refine kf h28 y δ tk (fun k a b => by rw [e28, up_k (by omega), e27, up_k a]; exact rf h21 fx k a b) (k28 77 (by decide) (by decide) (by decide)) ?_ rn (by have := st.2.1; omega) er ⟨⟨⟨?_, ?_⟩, fun c c0 c1 => ?_, fun f x0 x1 => ?_⟩, ⟨?_, ⟨?_, p2, ?_⟩, ?_, ?_⟩, ⟨?_, fun u => ?_⟩, ⟨?_, fun j j0 j1 => ?_, ?_, fun i i0 i1' => ?_⟩, ?_⟩
    · rw [v28 1 (by decide)]; exact c1' h21 fx
    · rw [e28, up_k (by decide), e27, up_k (by decide), fx.2.2.1 0 (by omega), l49 0 (by omega)]; exact q1.1.1
    · rw [e28, up_k (by decide), e27, up_k (by decide), fx.2.2.1 1 (by omega), l49 1 (by omega)]; exact q1.1.2
    · rw [e28, up_k (by decide), e27, up_k (by decide), fx.2.2.2.1 c (by omega), k15 50 (by decide) (by decide)]; exact q1.2.1 c c0 c1
    · have g : ∀ k : Nat, 51 ≤ k → k ≤ 54 → h28 k 7 f = h k 7 f := fun k a b => by rw [e28, up_k (by omega), e27, up_k (by omega), fx.2.2.2.2 k f a b (by omega), k15 k (by omega) (by omega)]
      rw [g 51 (by omega) (by omega), g 52 (by omega) (by omega), g 53 (by omega) (by omega), g 54 (by omega) (by omega)]; exact q1.2.2 f x0 x1
    · rw [k28 56 (by decide) (by decide) (by decide)]; exact s1
    · rw [o28 35 (by decide) (by decide) (by decide)]; exact p1
    · rw [k28 62 (by decide) (by decide) (by decide)]; exact p3
    · rw [o28 38 (by decide) (by decide) (by decide)]; exact s3
    · unfold NoteR at *
      rw [k28 64 (by decide) (by decide) (by decide), k28 65 (by decide) (by decide) (by decide), k28 66 (by decide) (by decide) (by decide)]; exact s4
    · rw [o28 50 (by decide) (by decide) (by decide)]; exact i1
    · have := i2 u
      unfold SideI NoteR at *
      rw [k28 71 (by decide) (by decide) (by decide), o28 51 (by decide) (by decide) (by decide), k28 72 (by decide) (by decide) (by decide), o28 52 (by decide) (by decide) (by decide), k28 73 (by decide) (by decide) (by decide), k28 74 (by decide) (by decide) (by decide), k28 75 (by decide) (by decide) (by decide), k28 76 (by decide) (by decide) (by decide)]
      exact this
    · rw [v28 12 (by decide)]; exact (m12 h21 fx).1
    · have : j < (0 : Int) := j1
      omega
    · show _ = tk.1
      rw [e28, up_k (by decide), e27, up_eq]; exact st.2.2.1
    · show _ = if i = 0 then t.2.2.2 i + 1 else t.2.2.2 i
      have e57 : h27 57 7 = h 57 7 := by rw [e27, up_k (by decide), k12 h21 fx 57 (by decide) (by decide)]
      rw [e28, up_ji, e57]
      by_cases u : i = 0
      · rw [if_pos u, if_pos u, u, t4 0 (by omega) (by omega)]
      · rw [if_neg u, if_neg u]; exact t4 i i0 i1'
    · exact idl.i (fun j hj => o28 j (by omega) (by omega) (by omega))
  refine ⟨_, parse_b (R := readA t.2.1 n) (fun h21 tk δ q21 er => ?_) (fun h21 y tk δ st er => ?_) (n + 1).toNat (tokA t.2.1 n 0) drf0 h16 (by have := tr.1; omega) q16 rfl⟩
  · have fx := q21.2.2.2.2
    rw [q21.2.1]
    refine ⟨by omega, fun _ => takeOver_r q21 (fun h26 f26 j26 z26 pr row => ?_), fun u => absurd rfl u⟩
    have k26 : ∀ k, k ≠ 12 → ¬ (49 ≤ k ∧ k ≤ 56) → h26 k = h k := fun k a b => by rw [f26 k a b, k12 h21 fx k a (by omega)]
    have o26 : ∀ j, j ≠ 35 → j ≠ 38 → j ≠ 50 → j ≠ 1 → j ≠ 12 → ¬ (13 ≤ j ∧ j ≤ 21) → h26 12 7 j = h 12 7 j := fun j a b c d e f => by rw [j26 j a b c, o12 h21 fx j d e f]
    refine k h26 δ tk (fun k a b => by rw [f26 k a (by omega)]; exact rf h21 fx k a b) (k26 77 (by decide) (by decide)) (by rw [j26 1 (by decide) (by decide) (by decide)]; exact c1' h21 fx) rn er (fun g => ⟨pr, ⟨row g, ⟨z26.1, ⟨Int.le_refl (0 : Int), ?_⟩, fun i i0 i1' => ?_⟩, z26.2.1, fun j j0 j1 => ?_⟩, ⟨z26.2.2, fun u => ?_⟩, ⟨?_, fun j j0 j1 => ?_, ?_, fun i i0 i1' => ?_⟩, ?_⟩)
    · show (0 : Int) ≤ 40; omega
    · have : i < (0 : Int) := i1'
      omega
    · have : j < (0 : Int) := j1
      omega
    · have : (0 : Int) = 1 := u
      omega
    · rw [j26 12 (by decide) (by decide) (by decide)]; exact (m12 h21 fx).1
    · have : j < (0 : Int) := j1
      omega
    · rw [j26 21 (by decide) (by decide) (by decide)]; exact (m12 h21 fx).2
    · rw [k26 57 (by decide) (by decide)]; exact t4 i i0 i1'
    · exact idl.i (fun j hj => o26 j (by omega) (by omega) (by omega) (by omega) (by omega) (by omega))
  · have := st.2.1
    rw [st.1]
    exact ⟨by omega, fun u => by omega, fun _ => rest h21 y tk δ st er⟩
