def st0 (δ : PL) (g : Nat → Int → Int → Int) : ST
  | 0, a, _ => if a = 4 then -1 else 0
  | 7, a, b => g 7 a b
  | 8, a, _ => δ 5 a
  | 9, a, _ => if 0 < δ 8 a then δ 6 a else g 9 a 0
  | 10, a, _ => if 0 < δ 8 a then δ 7 a else g 10 a 0
  | 11, a, _ => δ 8 a
  | _, _, _ => 0
def gar (h : HP) : Nat → Int → Int → Int
  | 7, a, b => h 30 10 (a * 20 + b)
  | 9, a, _ => h 13 10 a
  | 10, a, _ => h 14 10 a
  | _, _, _ => 0
def CuE (h : HP) (L : Int) (δ : PL) : Prop := ∀ s, 0 ≤ s → s < 36 → h 15 L s = δ 8 s ∧ h 17 L s = 0 ∧ (0 < δ 8 s → h 13 L s = δ 6 s ∧ h 14 L s = δ 7 s ∧ h 16 L s = tbend (δ 6 s) (δ 7 s) (δ 8 s))
theorem copyP_c {h : HP} {δ : PL} {P : HP → Prop} (dk : DOK δ) (pl : PlanC h 2 δ) (cu : CuD h δ) (k : ∀ h', (∀ k i, ¬ (i = 1 ∧ ((8 ≤ k ∧ k ≤ 43) ∧ k ≠ 12)) → h' k i = h k i) → PlanC h' 1 δ → CuE h' 1 δ → P h') : wX8_copyFrom 1 2 h P := by
  have ne : (1 : Int) ≠ 2 := by decide
  have n12 := dk.1.1.2.1
  have n8 := dk.1.2.1
  unfold wX8_copyFrom
  intro h1 e1 h2 e2
  refine ⟨by omega, fun h3 e3 => ?_⟩
  obtain ⟨a3, b3, c3, d3⟩ := cp_row ne e3
  refine ⟨by omega, fun h5 e5 => ?_⟩
  obtain ⟨a5, b5, c5, d5⟩ := cp_row ne e5
  refine ⟨by omega, fun h7 e7 => ?_⟩
  obtain ⟨a7, b7, c7, d7⟩ := cp_row ne e7
  refine ⟨by omega, fun h9 e9 => ?_⟩
  obtain ⟨a9, b9, c9, d9⟩ := cp_row ne e9
  refine ⟨by omega, fun h11 e11 => ?_⟩
  obtain ⟨a11, b11, c11, d11⟩ := cp_row ne e11
  refine ⟨by omega, fun h13 e13 => ?_⟩
  obtain ⟨a13, b13, c13, d13⟩ := cp_row ne e13
  refine ⟨by omega, fun h15 e15 => ?_⟩
  obtain ⟨a15, b15, c15, d15⟩ := cp_row ne e15
  have z2 : ∀ k, h2 k 2 = h k 2 := fun k => by rw [e2, up_i (by decide), e1, up_i (by decide)]
  have w15 : ∀ k, h15 k 2 = h k 2 := fun k => by rw [c15, c13, c11, c9, c7, c5, c3, z2]
  refine copyC_s ne (by omega) (fun s s0 s1 => ?_) (fun h17 f17 cp => ?_)
  · rw [w15, (cu s s0 (by omega)).2.1]; omega
  have k15 : ∀ k i, ¬ (i = 1 ∧ ((8 ≤ k ∧ k ≤ 43) ∧ k ≠ 12)) → h15 k i = h k i := by
    intro k i hn
    by_cases y : i = 1
    · have q : k ≠ 8 ∧ k ≠ 37 ∧ k ≠ 38 ∧ k ≠ 39 ∧ k ≠ 40 ∧ k ≠ 41 ∧ k ≠ 42 ∧ k ≠ 43 := by omega
      rw [b15 k q.2.2.2.2.2.2.2, b13 k q.2.2.2.2.2.2.1, b11 k q.2.2.2.2.2.1, b9 k q.2.2.2.2.1, b7 k q.2.2.2.1, b5 k q.2.2.1, b3 k q.2.1, e2, up_k q.1, e1, up_k q.1]
    · rw [d15 k i y, d13 k i y, d11 k i y, d9 k i y, d7 k i y, d5 k i y, d3 k i y, e2, up_i y, e1, up_i y]
  have nc : ∀ k, ¬ (13 ≤ k ∧ k ≤ 19) → h17 k 1 = h15 k 1 := fun k hk => f17 k 1 (fun u => hk u.2)
  have v8 : h15 8 1 = h2 8 1 := by rw [b15 8 (by decide), b13 8 (by decide), b11 8 (by decide), b9 8 (by decide), b7 8 (by decide), b5 8 (by decide), b3 8 (by decide)]
  have v37 : ∀ j, 0 ≤ j → j < 12 → h15 37 1 j = h 37 2 j := fun j j0 j1 => by rw [b15 37 (by decide), b13 37 (by decide), b11 37 (by decide), b9 37 (by decide), b7 37 (by decide), b5 37 (by decide), a3 j j0 j1, z2]
  have v38 : ∀ j, 0 ≤ j → j < 13 → h15 38 1 j = h 38 2 j := fun j j0 j1 => by rw [b15 38 (by decide), b13 38 (by decide), b11 38 (by decide), b9 38 (by decide), b7 38 (by decide), a5 j j0 j1, c3, z2]
  have v39 : ∀ j, 0 ≤ j → j < 156 → h15 39 1 j = h 39 2 j := fun j j0 j1 => by rw [b15 39 (by decide), b13 39 (by decide), b11 39 (by decide), b9 39 (by decide), a7 j j0 j1, c5, c3, z2]
  have v40 : ∀ j, 0 ≤ j → j < 8 → h15 40 1 j = h 40 2 j := fun j j0 j1 => by rw [b15 40 (by decide), b13 40 (by decide), b11 40 (by decide), a9 j j0 j1, c7, c5, c3, z2]
  have v41 : ∀ j, 0 ≤ j → j < 8 → h15 41 1 j = h 41 2 j := fun j j0 j1 => by rw [b15 41 (by decide), b13 41 (by decide), a11 j j0 j1, c9, c7, c5, c3, z2]
  have v42 : ∀ j, 0 ≤ j → j < 8 → h15 42 1 j = h 42 2 j := fun j j0 j1 => by rw [b15 42 (by decide), a13 j j0 j1, c11, c9, c7, c5, c3, z2]
  have v43 : ∀ j, 0 ≤ j → j < 8 → h15 43 1 j = h 43 2 j := fun j j0 j1 => by rw [a15 j j0 j1, c13, c11, c9, c7, c5, c3, z2]
  refine k h17 (fun k i hn => by rw [f17 k i (by unfold cuK; omega)]; exact k15 k i hn) ⟨⟨?_, ?_⟩, fun c c0 c1 => ?_, fun c hc => ?_, fun f f0 f1 => ?_⟩ (fun s s0 s1 => ?_)
  · rw [nc 8 (by omega), v8, e2, up_j (by decide), e1, up_eq]; exact pl.1.1
  · rw [nc 8 (by omega), v8, e2, up_eq, e1, up_i (by decide)]; exact pl.1.2
  · have pr := dk.1.1.2.2 c c0 c1
    have kc : 0 ≤ kidN δ (δ 1 c) c.toNat ∧ kidN δ (δ 1 c) c.toNat ≤ c.toNat := ⟨(kidN_pos (π := δ) (c := δ 1 c) c.toNat).1, (kidN_pos (π := δ) (c := δ 1 c) c.toNat).2.1⟩
    rw [nc 37 (by omega), nc 39 (by omega), v37 c c0 (by omega), v39 _ (by omega) (by omega)]; exact pl.2.1 c c0 c1
  · rw [nc 38 (by omega), v38 c hc.1 (by omega)]; exact pl.2.2.1 c hc
  · rw [nc 40 (by omega), nc 41 (by omega), nc 42 (by omega), nc 43 (by omega), v40 f f0 (by omega), v41 f f0 (by omega), v42 f f0 (by omega), v43 f f0 (by omega)]; exact pl.2.2.2 f f0 f1
  · obtain ⟨⟨p1, p2, p3, p4, p5⟩, -⟩ := cp s s0 (by omega)
    rw [p1, p2, p3, p4, p5, w15, w15, w15, w15, w15]
    exact cu s s0 s1
theorem begin_c {h : HP} {δ : PL} {P : HP → Prop} (dk : DOK δ) (pl : PlanC h 1 δ) (ce : CuE h 1 δ) (k : ∀ h' g, (∀ k i, ¬ (i = 10 ∧ lnK k) → h' k i = h k i) → LineC h' 10 δ (st0 δ g) → P h') : wX6_begin 10 h P := by
  have n12 := dk.1.1.2.1
  have n8 := dk.1.2.1
  unfold wX6_begin
  intro h1 e1 h2 e2 h3 e3 h4 e4 h5 e5 h6 e6
  refine fill_c (n := 12) rfl rfl (by omega) (fun h7 f7 g7 => fill_c (n := 12) rfl rfl (by omega) (fun h8 f8 g8 => fill_c (n := 12) rfl rfl (by omega) (fun h9 f9 g9 => fill_c (n := 13) rfl rfl (by omega) (fun h10 f10 g10 => fill_c (n := 12) rfl rfl (by omega) (fun h11 f11 g11 => fill_c (n := 13) rfl rfl (by omega) (fun h12 f12 g12 => fill_c (n := 12) rfl rfl (by omega) (fun h13 f13 g13 => ⟨by omega, fun h14 e14 => ?_⟩)))))))
  have k6 : ∀ k i, ¬ (k = 6 ∧ i = 10) → h6 k i = h k i := fun k i hn => by rw [e6, up_x hn, e5, up_x hn, e4, up_x hn, e3, up_x hn, e2, up_x hn, e1, up_x hn]
  have k13 : ∀ k i, ¬ (i = 10 ∧ (k = 24 ∨ k = 25 ∨ k = 26 ∨ k = 27 ∨ k = 28 ∨ k = 29 ∨ k = 31)) → h13 k i = h6 k i := fun k i hn => by
    rw [f13 k i (by omega), f12 k i (by omega), f11 k i (by omega), f10 k i (by omega), f9 k i (by omega), f8 k i (by omega), f7 k i (by omega)]
  have k14 : ∀ k i, ¬ (k = 32 ∧ i = 10) → h14 k i = h13 k i := fun k i hn => by
    rw [e14]
    by_cases y : k = 32
    · rw [upr_i (fun z => hn ⟨y, z⟩)]
    · rw [upr_k y]
  have one : ∀ k, h14 k 1 = h k 1 := fun k => by rw [k14 k 1 (by omega), k13 k 1 (by omega), k6 k 1 (by omega)]
  refine copyC_s (by decide) (by omega) (fun s s0 s1 => by rw [one, (ce s s0 (by omega)).2.1]; omega) (fun h16 f16 cp => ?_)
  have nc : ∀ k, ¬ (13 ≤ k ∧ k ≤ 19) → h16 k 10 = h14 k 10 := fun k hk => f16 k 10 (fun u => hk u.2)
  have v6 : h16 6 10 = h6 6 10 := by rw [nc 6 (by omega), k14 6 10 (by omega), k13 6 10 (by omega)]
  have v24 : ∀ j : Int, 0 ≤ j → j < 12 → h16 24 10 j = 0 := fun j j0 j1 => by rw [nc 24 (by omega), k14 24 10 (by omega), f13 24 10 (by omega), f12 24 10 (by omega), f11 24 10 (by omega), f10 24 10 (by omega), f9 24 10 (by omega), f8 24 10 (by omega)]; exact g7 j j0 (by omega)
  have v25 : ∀ j : Int, 0 ≤ j → j < 12 → h16 25 10 j = 0 := fun j j0 j1 => by rw [nc 25 (by omega), k14 25 10 (by omega), f13 25 10 (by omega), f12 25 10 (by omega), f11 25 10 (by omega), f10 25 10 (by omega), f9 25 10 (by omega)]; exact g8 j j0 (by omega)
  have v26 : ∀ j : Int, 0 ≤ j → j < 12 → h16 26 10 j = 0 := fun j j0 j1 => by rw [nc 26 (by omega), k14 26 10 (by omega), f13 26 10 (by omega), f12 26 10 (by omega), f11 26 10 (by omega), f10 26 10 (by omega)]; exact g9 j j0 (by omega)
  have v27 : ∀ j : Int, 0 ≤ j → j < 13 → h16 27 10 j = 0 := fun j j0 j1 => by rw [nc 27 (by omega), k14 27 10 (by omega), f13 27 10 (by omega), f12 27 10 (by omega), f11 27 10 (by omega)]; exact g10 j j0 (by omega)
  have v28 : ∀ j : Int, 0 ≤ j → j < 12 → h16 28 10 j = 0 := fun j j0 j1 => by rw [nc 28 (by omega), k14 28 10 (by omega), f13 28 10 (by omega), f12 28 10 (by omega)]; exact g11 j j0 (by omega)
  have v29 : ∀ j : Int, 0 ≤ j → j < 13 → h16 29 10 j = 0 := fun j j0 j1 => by rw [nc 29 (by omega), k14 29 10 (by omega), f13 29 10 (by omega)]; exact g12 j j0 (by omega)
  have v31 : ∀ j : Int, 0 ≤ j → j < 12 → h16 31 10 j = 0 := fun j j0 j1 => by rw [nc 31 (by omega), k14 31 10 (by omega)]; exact g13 j j0 (by omega)
  have v32 : ∀ j : Int, 0 ≤ j → j < 8 → h16 32 10 j = h 43 1 j := fun j j0 j1 => by
    rw [nc 32 (by omega), e14, upr_eq]
    show (if 0 ≤ j ∧ j < 0 + 8 then h13 43 1 (0 + (j - 0)) else h13 32 10 j) = _
    rw [if_pos (by omega), k13 43 1 (by omega), k6 43 1 (by omega), show 0 + (j - 0) = j by omega]
  have fr : ∀ k i, ¬ (i = 10 ∧ lnK k) → h16 k i = h k i := fun k i hn => by
    unfold lnK at hn
    rw [f16 k i (by unfold cuK; omega), k14 k i (by omega), k13 k i (by omega), k6 k i (by omega)]
  have hz : ∀ b, hel δ (st0 δ (gar h16)) b = 0 := by
    intro b
    have hn := hel_nonneg (π := δ) (σ := st0 δ (gar h16)) (b := b) (fun k _ _ => Int.le_refl (0 : Int))
    have hp := hel_pos (π := δ) (σ := st0 δ (gar h16)) (b := b) (fun k _ _ => Int.le_refl (0 : Int))
    by_cases u : 0 < hel δ (st0 δ (gar h16)) b
    · obtain ⟨x, -, -, -, v⟩ := hp.mp u
      have v' : (0 : Int) < 0 := v
      omega
    · omega
  refine k h16 (gar h16) fr ⟨⟨⟨?_, ?_, ?_, ?_, ?_, ?_⟩, fun c c0 c1 => ⟨?_, ?_, ?_, ?_, ⟨?_, fun i i0 i1 => ?_⟩⟩, fun c hc => ?_, fun f f0 f1 => ?_, fun s s0 s1 => ?_⟩, fun c hc => ?_⟩
  · rw [v6, e6, up_j (by decide), e5, up_j (by decide), e4, up_j (by decide), e3, up_j (by decide), e2, up_j (by decide), e1, up_eq]; rfl
  · rw [v6, e6, up_j (by decide), e5, up_j (by decide), e4, up_j (by decide), e3, up_j (by decide), e2, up_eq]; rfl
  · rw [v6, e6, up_j (by decide), e5, up_j (by decide), e4, up_j (by decide), e3, up_eq]; rfl
  · rw [v6, e6, up_j (by decide), e5, up_j (by decide), e4, up_eq]; rfl
  · rw [v6, e6, up_j (by decide), e5, up_eq]; rfl
  · rw [v6, e6, up_eq]; rfl
  · rw [v24 c c0 (by omega)]; rfl
  · rw [v25 c c0 (by omega)]; rfl
  · rw [v26 c c0 (by omega)]; rfl
  · rw [v28 c c0 (by omega)]; rfl
  · rw [v31 c c0 (by omega)]; omega
  · rw [v31 c c0 (by omega), show c * 20 + (0 + i) % 20 = c * 20 + i by omega]; rfl
  · rw [v27 c (by omega) (by omega)]; rfl
  · rw [v32 f f0 (by omega)]; exact (pl.2.2.2 f f0 f1).2.2.2
  · obtain ⟨⟨p1, p2, p3, p4, p5⟩, -⟩ := cp s s0 (by omega)
    obtain ⟨c1, c2, c3⟩ := ce s s0 (by omega)
    have q17 : h16 17 10 s = 0 := by rw [p5, one]; exact c2
    unfold CurveC LaidC
    rw [q17]
    refine ⟨?_, ?_, ?_, fun u => ?_, fun _ => rfl, by omega, fun i i0 i1 => by omega, fun i j i0 i1 i2 => by omega, fun n _ => IsMax.zero, fun n _ => IsMax.zero⟩
    · show _ = if 0 < δ 8 s then δ 6 s else h16 13 10 s
      by_cases u : 0 < δ 8 s
      · rw [if_pos u, p1, one]; exact (c3 u).1
      · rw [if_neg u]
    · show _ = if 0 < δ 8 s then δ 7 s else h16 14 10 s
      by_cases u : 0 < δ 8 s
      · rw [if_pos u, p2, one]; exact (c3 u).2.1
      · rw [if_neg u]
    · show _ = δ 8 s
      rw [p3, one]; exact c1
    · have u' : 0 < δ 8 s := u
      show _ = tbend (if 0 < δ 8 s then δ 6 s else h16 13 10 s) (if 0 < δ 8 s then δ 7 s else h16 14 10 s) (δ 8 s)
      rw [if_pos u', if_pos u', p4, one]; exact (c3 u').2.2
  · rw [hz, v29 c (by omega) (by omega)]
theorem st0_inv {δ : PL} {g : Nat → Int → Int → Int} {K : Int} (dk : DOK δ) (hK : 0 ≤ K) : AInv δ K (st0 δ g) := by
  obtain ⟨h1, h2, h3, h4⟩ := dk
  have n12 := h1.1.2.1
  have z : ∀ c, cur (st0 δ g) c = 0 := fun c => by unfold cur; split <;> rfl
  have fz : FOK (fun _ => (0 : Int)) 0 := FOK.zero 0
  refine ⟨⟨Int.le_refl (0 : Int), ?_⟩, ⟨Int.le_refl (0 : Int), ?_⟩, ⟨Int.le_refl (0 : Int), Int.le_refl (0 : Int)⟩, ⟨Int.le_refl (0 : Int), Int.le_refl (0 : Int)⟩, Or.inl rfl, ⟨Int.le_refl (0 : Int), ?_⟩, fun c c0 c1 => ⟨⟨Int.le_refl (0 : Int), Int.le_refl (0 : Int), Int.le_refl (0 : Int)⟩, ⟨Int.le_refl (0 : Int), ?_⟩, ⟨Int.le_refl (0 : Int), ?_⟩, ⟨Int.le_refl (0 : Int), ?_⟩, fun _ => rfl, fun i i0 i1 => ?_, ?_, fun u => ?_, Int.le_refl (0 : Int)⟩, fun c hc => ⟨Int.le_refl (0 : Int), ?_⟩, fun f f0 f1 => ?_, fun s s0 s1 => ⟨⟨?_, fun u => ?_⟩, ?_, ?_, fun _ n hn => ⟨?_, ?_⟩⟩⟩
  · show (0 : Int) ≤ 2700; omega
  · show (0 : Int) ≤ 64; omega
  · show (0 : Int) < 256; omega
  · show (0 : Int) ≤ 6500 * 0; omega
  · show (0 : Int) ≤ 8 * 0 + K; omega
  · show (0 : Int) ≤ 20; omega
  · have : i < (0 : Int) := i1
    omega
  · exact (h4 c c0 c1).1
  · exact (h4 c c0 c1).2 u
  · show (0 : Int) ≤ 6500 * 0; omega
  · exact (h1.2.2 f f0 f1).2.2.2
  · exact (h2 s s0 (by omega)).1
  · have u' : 0 < δ 8 s := u
    show wellC (if 0 < δ 8 s then δ 6 s else g 9 s 0) (if 0 < δ 8 s then δ 7 s else g 10 s 0) (δ 8 s)
    rw [if_pos u', if_pos u']
    exact (h2 s s0 (by omega)).2 u'
  · rw [z]; exact fz
  · rw [z]; exact fz
  · rw [z] at hn
    show (0 : Int) ≤ 0 + 31 + 100 * n; omega
  · rw [z] at hn
    show (0 : Int) ≤ 0 + 31 + 100 * n; omega
theorem CI.cgL {h h' : HP} {π : PL} {s : SD} {im : IM} {t t' : TX} (q : CI h π s im t) (e : ∀ k i, k ≠ 9 → i ≠ 2 → k ≠ 11 → k ≠ 46 → h' k i = h k i) (e10 : h' 11 0 10 = h 11 0 10) (tx : TxtC h' t') : CI h' π s im t' := by
  obtain ⟨q1, q2, ⟨i1, i2⟩, -⟩ := q
  have h3 : hb 3 = 20 := rfl
  have h4 : hb 4 = 60 := rfl
  refine ⟨q1.congr (fun k hk => e k 1 (by omega) (by omega) (by omega) (by omega)), q2.cg (fun k hk _ => e k 10 (by unfold lnK at hk; omega) (by omega) (by unfold lnK at hk; omega) (by unfold lnK at hk; omega)) (e 5 3 (by omega) (by omega) (by omega) (by omega)) (fun k i hk i0 i1 => e k i (by unfold lnK at hk; omega) (by omega) (by unfold lnK at hk; omega) (by unfold lnK at hk; omega)) (fun k hk => e k 5 (by unfold ntK at hk; omega) (by omega) (by unfold ntK at hk; omega) (by unfold ntK at hk; omega)), ⟨by rw [e10]; exact i1, fun z => ⟨(i2 z).1.cg (fun k hk _ => e k 11 (by unfold lnK at hk; omega) (by omega) (by unfold lnK at hk; omega) (by unfold lnK at hk; omega)) (e 5 4 (by omega) (by omega) (by omega) (by omega)) (fun k i hk i0 i1 => e k i (by unfold lnK at hk; omega) (by omega) (by unfold lnK at hk; omega) (by unfold lnK at hk; omega)) (fun k hk => e k 6 (by unfold ntK at hk; omega) (by omega) (by unfold ntK at hk; omega) (by unfold ntK at hk; omega)), ?_⟩⟩, tx⟩
  rw [e 47 0 (by omega) (by omega) (by omega) (by omega)]; exact (i2 z).2
theorem link_c {h : HP} {π : PL} {K n : Int} {s : SD} {im : IM} {t : TX} {P : Int → HP → Prop} {X : Nat → HP → Prop} (w : WA π K s im t) (ci : CI h π s im t) (hn : inR n)
    (k : ∀ h' δ g tk, FrCm h h' → (0 ≤ n ∧ n ≤ t.1) → readA t.2.1 n = (0, tk, δ) → DOK δ → CI h' δ (st0 δ g, 0, s.2.2.1, 0, s.2.2.2.2) (0, im.2) (0, t.2.1, -1, t.2.2.2) → P 0 h')
    (kf : ∀ h' y δ tk, FrCm h h' → (0 ≤ n ∧ n ≤ t.1) → y ≠ 0 → readA t.2.1 n = (y, tk, δ) → CI h' π s im (0, t.2.1, tk.1, (refT t 0).2.2.2) → P y h')
    (kx : ¬ (0 ≤ n ∧ n ≤ t.1) → X 1 h) : wX11_link 0 n h P X := by
  obtain ⟨w1, w2, w3, w4, w5, w6⟩ := w
  have tx := ci.2.2.2
  unfold wX11_link
  rw [tx.1]
  refine ⟨hn, fun z => kx (fun u => by omega), fun z => ⟨hn, by omega, fun z2 => ?_, fun z2 => kx (fun u => z2 u.2)⟩⟩
  have rn : 0 ≤ n ∧ n ≤ t.1 := ⟨by omega, z2⟩
  refine read_c (T := t.2.1) (by omega) (fun j j0 j1 => tx.2.1 j j0 (by omega)) (fun j j0 j1 => w6 j j0 (by omega)) (fun h6 y tk δ q6 ry ey h8 e8 => ⟨by omega, fun z3 h11 e11 => ?_, fun z3 => ?_⟩)
  · obtain ⟨-, q2, q3, q4, q5⟩ := q6
    have k11 : ∀ k, k ≠ 11 → h11 k = h6 k := fun k hk => by rw [e11, up_k hk, e8, up_k hk]
    refine copyP_c q4 (q2.congr (fun k hk => by rw [k11 k (by omega)])) (q3.cg (fun k k1 k2 => by rw [k11 k (by omega)])) (fun h12 f12 p12 c12 => begin_c q4 p12 c12 (fun h13 g f13 l13 => ?_))
    unfold wX5_clear wX7_clear
    intro g1 a1 g2 a2 g3 a3 h16 e16
    have k16 : ∀ k, k ≠ 5 → k ≠ 7 → k ≠ 11 → h16 k = h13 k := fun k k1 k2 k3 => by rw [e16, up_k k3, a3, up_k k2, a2, up_k k1, a1, up_k k1]
    have c11 : h13 11 0 = h11 11 0 := by rw [f13 11 0 (by omega), f12 11 0 (by omega)]
    rw [z3] at ey
    refine k h16 δ g tk (fun kk hk => ?_) rn ey q4 ⟨p12.congr (fun k hk => by rw [k16 k (by omega) (by omega) (by omega), f13 k 1 (by omega)]), ⟨l13.congr (fun k hk => by rw [k16 k (by unfold lnK at hk; omega) (by unfold lnK at hk; omega) (by unfold lnK at hk; omega)]), ⟨?_, ⟨Int.le_refl (0 : Int), ?_⟩, ?_, fun i i0 i1 => ?_⟩, ⟨?_, ⟨Int.le_refl (0 : Int), ?_⟩, fun i i0 i1 => ?_, fun i i0 i1 => ?_, fun i j i0 i1 i2 => ?_⟩⟩, ⟨?_, fun u => ?_⟩, ⟨?_, fun j j0 j1 => ?_, ?_, fun i i0 i1 => ?_⟩⟩
    · funext i
      rw [k16 kk (by omega) (by omega) (by omega), f13 kk i (by unfold lnK; omega), f12 kk i (by omega), k11 kk (by omega), q5 kk i (by omega) (by omega)]
    · show _ = (0 : Int)
      rw [e16, up_k (by decide), a3, up_k (by decide), a2, up_eq]
    · show (0 : Int) ≤ 40; omega
    · rw [e16, up_k (by decide), a3, up_k (by decide), a2, up_j (by decide), a1, up_eq]; omega
    · have : i < (0 : Int) := i1
      omega
    · show _ = (0 : Int)
      rw [e16, up_k (by decide), a3, up_eq]
    · show (0 : Int) ≤ 8; omega
    · have : i < (0 : Int) := i1
      omega
    · have : i < (0 : Int) := i1
      omega
    · have : j < (0 : Int) := i2
      omega
    · show _ = (0 : Int)
      rw [e16, up_eq]
    · have : (0 : Int) = 1 := u
      omega
    · show _ = (0 : Int)
      rw [e16, up_j (by decide), a3, up_k (by decide), a2, up_k (by decide), a1, up_k (by decide), c11, e11, up_j (by decide), e8, up_eq]
    · have : j < (0 : Int) := j1
      omega
    · show _ = (-1 : Int)
      rw [e16, up_j (by decide), a3, up_k (by decide), a2, up_k (by decide), a1, up_k (by decide), c11, e11, up_eq]
    · rw [k16 46 (by omega) (by omega) (by omega), f13 46 0 (by omega), f12 46 0 (by omega), k11 46 (by omega), q5 46 0 (by omega) (by omega)]
      exact tx.2.2.2 i i0 i1
  · unfold wX9_place
    intro h19 e19 h20 e20
    have k20 : ∀ k, k ≠ 11 → k ≠ 46 → h20 k = h6 k := fun k k1 k2 => by rw [e20, up_k k2, e19, up_k k1, e8, up_k k1]
    have p8 : h8 9 0 3 = tk.1 := by rw [e8, up_k (by decide)]; exact q6.1.2.1.1
    have q5 := q6.2.2.2.2
    refine kf h20 y δ tk (fun kk hk => ?_) rn z3 ey (ci.cgL (fun k i k9 i2 k11 k46 => by rw [k20 k k11 k46]; exact q5 k i k9 (Or.inl i2)) ?_ ⟨?_, fun j j0 j1 => ?_, ?_, fun i i0 i1 => ?_⟩)
    · funext i
      rw [k20 kk (by omega) (by omega), q5 kk i (by omega) (by omega)]
    · rw [e20, up_k (by decide), e19, up_j (by decide), e8, up_j (by decide), q5 11 0 (by omega) (by omega)]
    · show _ = (0 : Int)
      rw [e20, up_k (by decide), e19, up_j (by decide), e8, up_eq]
    · have : j < (0 : Int) := j1
      omega
    · show _ = tk.1
      rw [e20, up_k (by decide), e19, up_eq, p8]
    · show _ = if i = 0 then t.2.2.2 i + 1 else t.2.2.2 i
      have e46 : h19 46 0 = h 46 0 := by rw [e19, up_k (by decide), e8, up_k (by decide), q5 46 0 (by omega) (by omega)]
      rw [e20, up_ji, e46]
      by_cases u : i = 0
      · rw [if_pos u, if_pos u, u, tx.2.2.2 0 (by omega) (by omega)]
      · rw [if_neg u, if_neg u]; exact tx.2.2.2 i i0 i1
