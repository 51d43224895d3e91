/-! the reference takes over, links -/
theorem half_r {k0 m N : Nat} {h : HP} {P : HP → Prop} (c0 : kCls k0 = 99) (l0 : kLen k0 = N) (hN : N = 2 * m) (hm : m < 1000) (k : ∀ h', (∀ k i, ¬ (k = k0 ∧ i = 7) → h' k i = h k i) → (∀ j : Int, 0 ≤ j → j < m → h' k0 7 j = h k0 7 (m + j)) → P h') : wX12_takeHalf k0 7 h P := by
  unfold wX12_takeHalf
  have loop : ∀ (d i : Nat) (hh : HP), m - i = d → i ≤ m → (∀ k i, ¬ (k = k0 ∧ i = 7) → hh k i = h k i) → (∀ j : Int, 0 ≤ j → j < i → hh k0 7 j = h k0 7 (m + j)) → (∀ j : Int, i ≤ j → hh k0 7 j = h k0 7 j) → wX12_takeHalf_2 k0 7 k0 7 (fun h14 => P h14) (d + 1) i hh := by
    intro d
    induction d with
    | zero =>
      intro i hh hd hi f g g2
      have e : i = m := by omega
      subst e
      rw [wX12_takeHalf_2, l0]
      exact ⟨c0, by omega, by omega, by omega, fun _ => k hh f g, fun u => absurd (by omega) u⟩
    | succ d ih =>
      intro i hh hd hi f g g2
      have hd2 : ((N : Nat) : Int) / 2 = m := by omega
      rw [wX12_takeHalf_2, l0, hd2]
      refine ⟨c0, by omega, by omega, by omega, fun u => absurd u (by omega), fun _ => ⟨c0, by omega, c0, by omega, c0, by omega, fun h10 e10 => ?_⟩⟩
      refine ih (i + 1) h10 (by omega) (by omega) (fun k' i' hn => by rw [e10, up_x hn]; exact f k' i' hn) (fun j j0 j1 => ?_) (fun j j0 => ?_)
      · rw [e10, up_ji]
        by_cases w : j = i
        · rw [if_pos w, g2 _ (by omega), w]
        · rw [if_neg w]; exact g j j0 (by omega)
      · rw [e10, up_j (by omega)]; exact g2 j (by omega)
  exact ⟨_, loop m 0 h (by omega) (by omega) (fun _ _ _ => rfl) (fun j j0 j1 => by omega) (fun _ _ => rfl)⟩
theorem takeOver_r {h0 h : HP} {T : Int → Int} {n : Int} {t : TK} {δ : PL} {P : HP → Prop} (q : RcR h0 h T n t δ (δ 0 0) (-1))
    (k : ∀ h', (∀ k, k ≠ 12 → ¬ (49 ≤ k ∧ k ≤ 56) → h' k = h k) → (∀ j, j ≠ 35 → j ≠ 38 → j ≠ 50 → h' 12 7 j = h 12 7 j) → (h' 12 7 35 = 0 ∧ h' 12 7 38 = 0 ∧ h' 12 7 50 = 0) → PlanR h' δ → (∀ g, RowR (h' 56 7) δ (st0 δ g)) → P h') : wX12_takeOver 7 h P := by
  obtain ⟨-, -, ⟨d1, d2, d3, d4⟩, dk, -⟩ := q
  have n0 := dk.1.1.1
  have n12 := dk.1.1.2.1
  have n8 := dk.1.2.1
  unfold wX12_takeOver
  refine half_r (m := 2) (N := 4) rfl rfl rfl (by omega) (fun h1 f1 g1 => half_r (m := 12) (N := 24) rfl rfl rfl (by omega) (fun h2 f2 g2 => half_r (m := 8) (N := 16) rfl rfl rfl (by omega) (fun h3 f3 g3 => half_r (m := 8) (N := 16) rfl rfl rfl (by omega) (fun h4 f4 g4 => half_r (m := 8) (N := 16) rfl rfl rfl (by omega) (fun h5 f5 g5 => half_r (m := 8) (N := 16) rfl rfl rfl (by omega) (fun h6 f6 g6 => half_r (m := 144) (N := 288) rfl rfl rfl (by omega) (fun h7 f7 g7 => ?_)))))))
  have k7 : ∀ k i, ¬ ((49 ≤ k ∧ k ≤ 55) ∧ i = 7) → h7 k i = h k i := fun k i hn => by
    rw [f7 k i (by omega), f6 k i (by omega), f5 k i (by omega), f4 k i (by omega), f3 k i (by omega), f2 k i (by omega), f1 k i (by omega)]
  have v49 : h7 49 7 0 = δ 0 0 ∧ h7 49 7 1 = δ 0 1 := by
    rw [f7 49 7 (by omega), f6 49 7 (by omega), f5 49 7 (by omega), f4 49 7 (by omega), f3 49 7 (by omega), f2 49 7 (by omega)]
    exact ⟨by rw [g1 0 (by omega) (by omega)]; exact d1.1, by rw [g1 1 (by omega) (by omega)]; exact d1.2⟩
  have v50 : ∀ c, 0 ≤ c → c < δ 0 0 → h7 50 7 c = rc (δ 1 c) := fun c c0 c1 => by
    rw [f7 50 7 (by omega), f6 50 7 (by omega), f5 50 7 (by omega), f4 50 7 (by omega), f3 50 7 (by omega), g2 c c0 (by omega), f1 50 7 (by omega)]; exact d2 c c0 c1
  have v51 : ∀ f, 0 ≤ f → f < δ 0 1 → h7 51 7 f = δ 2 f := fun f x0 x1 => by
    rw [f7 51 7 (by omega), f6 51 7 (by omega), f5 51 7 (by omega), f4 51 7 (by omega), g3 f x0 (by omega), f2 51 7 (by omega), f1 51 7 (by omega)]; exact (d3 f x0 x1).1
  have v52 : ∀ f, 0 ≤ f → f < δ 0 1 → h7 52 7 f = δ 3 f := fun f x0 x1 => by
    rw [f7 52 7 (by omega), f6 52 7 (by omega), f5 52 7 (by omega), g4 f x0 (by omega), f3 52 7 (by omega), f2 52 7 (by omega), f1 52 7 (by omega)]; exact (d3 f x0 x1).2.1
  have v53 : ∀ f, 0 ≤ f → f < δ 0 1 → h7 53 7 f = δ 4 f := fun f x0 x1 => by
    rw [f7 53 7 (by omega), f6 53 7 (by omega), g5 f x0 (by omega), f4 53 7 (by omega), f3 53 7 (by omega), f2 53 7 (by omega), f1 53 7 (by omega)]; exact (d3 f x0 x1).2.2.1
  have v54 : ∀ f, 0 ≤ f → f < δ 0 1 → h7 54 7 f = δ 5 f := fun f x0 x1 => by
    rw [f7 54 7 (by omega), g6 f x0 (by omega), f5 54 7 (by omega), f4 54 7 (by omega), f3 54 7 (by omega), f2 54 7 (by omega), f1 54 7 (by omega)]; exact (d3 f x0 x1).2.2.2
  have v55 : ∀ j, 0 ≤ j → j < 144 → h7 55 7 j = h 55 7 (144 + j) := fun j j0 j1 => by
    rw [g7 j j0 (by omega), f6 55 7 (by omega), f5 55 7 (by omega), f4 55 7 (by omega), f3 55 7 (by omega), f2 55 7 (by omega), f1 55 7 (by omega)]; rfl
  -- the row, emptied
  have l51 : ∀ (Ko : HP → Prop), (∀ h', (∀ k, k ≠ 56 → h' k = h7 k) → (∀ j, 0 ≤ j → j < 3099 → h' 56 7 j = 0) → Ko h') → ∃ g, wX12_takeOver_51 7 Ko g 0 h7 := by
    intro Ko kk
    have loop : ∀ (d : Nat) (i : Int) (hh : HP), (3099 - i).toNat = d → 0 ≤ i → i ≤ 3099 → (∀ k, k ≠ 56 → hh k = h7 k) → (∀ j, 0 ≤ j → j < i → hh 56 7 j = 0) → wX12_takeOver_51 7 Ko (d + 1) i hh := by
      intro d
      induction d with
      | zero =>
        intro i hh hd i0 i1 f g
        have e : i = 3099 := by omega
        subst e
        rw [wX12_takeOver_51]
        exact ⟨by omega, fun _ => kk hh f g, fun u => absurd (Int.le_refl _) u⟩
      | succ d ih =>
        intro i hh hd i0 i1 f g
        have hd1 : (3099 - (i + 1)).toNat = d := by omega
        rw [wX12_takeOver_51]
        refine ⟨by omega, fun u => absurd u (by omega), fun _ => ⟨by omega, fun h10 e10 => ih (i + 1) h10 hd1 (by omega) (by omega) (fun k hk => by rw [e10, up_k hk]; exact f k hk) (fun j j0 j1 => ?_)⟩⟩
        rw [e10, up_ji]
        by_cases w : j = i
        · rw [if_pos w]
        · rw [if_neg w]; exact g j j0 (by omega)
    exact ⟨_, loop _ 0 h7 rfl (by omega) (by omega) (fun _ _ => rfl) (fun j j0 j1 => by omega)⟩
  refine l51 _ (fun h13 f13 g13 => ?_)
  -- the curves
  have l73 : ∀ (Ko : HP → Prop), (∀ h', (∀ k, k ≠ 56 → h' k = h7 k) → (∀ j, 0 ≤ j → j < 3099 → h' 56 7 j = if j < 257 * δ 0 0 ∧ j % 257 < 12 then h7 55 7 (12 * (j / 257) + j % 257) else 0) → Ko h') → ∃ g, wX12_takeOver_73 7 Ko g 0 h13 := by
    intro Ko kk
    have inner : ∀ (c : Int) (K1 : HP → Prop), 0 ≤ c → c < δ 0 0 → (∀ h', (∀ k, k ≠ 56 → h' k = h7 k) → (∀ j, 0 ≤ j → j < 3099 → h' 56 7 j = if j < 257 * (c + 1) ∧ j % 257 < 12 then h7 55 7 (12 * (j / 257) + j % 257) else 0) → K1 h') →
        ∀ (d : Nat) (i : Int) (hh : HP), (12 - i).toNat = d → 0 ≤ i → i ≤ 12 → (∀ k, k ≠ 56 → hh k = h7 k) → (∀ j, 0 ≤ j → j < 3099 → hh 56 7 j = if (j < 257 * c ∧ j % 257 < 12) ∨ (257 * c ≤ j ∧ j < 257 * c + i) then h7 55 7 (12 * (j / 257) + j % 257) else 0) → wX12_takeOver_85 7 c K1 (d + 1) i hh := by
      intro c K1 c0 c1 k1 d
      induction d with
      | zero =>
        intro i hh hd i0 i1 f g
        have e : i = 12 := by omega
        subst e
        rw [wX12_takeOver_85]
        refine ⟨by omega, fun _ => k1 hh f (fun j j0 j1 => ?_), fun u => absurd (Int.le_refl _) u⟩
        rw [g j j0 j1]
        by_cases w : (j < 257 * c ∧ j % 257 < 12) ∨ (257 * c ≤ j ∧ j < 257 * c + 12)
        · rw [if_pos w, if_pos (by omega)]
        · rw [if_neg w, if_neg (by omega)]
      | succ d ih =>
        intro i hh hd i0 i1 f g
        have hd1 : (12 - (i + 1)).toNat = d := by omega
        rw [wX12_takeOver_85]
        refine ⟨by omega, fun u => absurd u (by omega), fun _ => ⟨by omega, by omega, fun h20 e20 => ih (i + 1) h20 hd1 (by omega) (by omega) (fun k hk => by rw [e20, up_k hk]; exact f k hk) (fun j j0 j1 => ?_)⟩⟩
        rw [e20, up_ji, f 55 (by decide), g j j0 j1]
        by_cases w : j = 257 * c + i
        · rw [if_pos w, if_pos (by omega), show j / 257 = c by omega, show j % 257 = i by omega]
        · rw [if_neg w]
          by_cases w2 : (j < 257 * c ∧ j % 257 < 12) ∨ (257 * c ≤ j ∧ j < 257 * c + i)
          · rw [if_pos w2, if_pos (by omega)]
          · rw [if_neg w2, if_neg (by omega)]
    have loop : ∀ (d : Nat) (c : Int) (hh : HP), (δ 0 0 - c).toNat = d → 0 ≤ c → c ≤ δ 0 0 → (∀ k, k ≠ 56 → hh k = h7 k) → (∀ j, 0 ≤ j → j < 3099 → hh 56 7 j = if j < 257 * c ∧ j % 257 < 12 then h7 55 7 (12 * (j / 257) + j % 257) else 0) → wX12_takeOver_73 7 Ko (d + 1) c hh := by
      intro d
      induction d with
      | zero =>
        intro c hh hd c0 c1 f g
        have e : c = δ 0 0 := by omega
        subst e
        rw [wX12_takeOver_73, f 49 (by decide), v49.1]
        exact ⟨by omega, by omega, fun _ => kk hh f g, fun u => absurd (Int.le_refl _) u⟩
      | succ d ih =>
        intro c hh hd c0 c1 f g
        have hd1 : (δ 0 0 - (c + 1)).toNat = d := by omega
        rw [wX12_takeOver_73, f 49 (by decide), v49.1]
        refine ⟨by omega, by omega, fun u => absurd u (by omega), fun _ => ⟨_, inner c _ c0 (by omega) (fun h' f' g' => ih (c + 1) h' hd1 (by omega) (by omega) f' g') 12 0 hh (by omega) (by omega) (by omega) f (fun j j0 j1 => ?_)⟩⟩
        rw [g j j0 j1]
        by_cases w : j < 257 * c ∧ j % 257 < 12
        · rw [if_pos w, if_pos (Or.inl w)]
        · rw [if_neg w, if_neg (by omega)]
    exact ⟨_, loop _ 0 h13 rfl (by omega) n0 f13 (fun j j0 j1 => by rw [g13 j j0 j1, if_neg (by omega)])⟩
  refine l73 _ (fun h25 f25 g25 => ?_)
  have l128 : ∀ (Ko : HP → Prop), (∀ h', (∀ k, k ≠ 56 → h' k = h7 k) → (∀ j, ¬ (3091 ≤ j ∧ j < 3091 + δ 0 1) → h' 56 7 j = h25 56 7 j) → (∀ f, 0 ≤ f → f < δ 0 1 → h' 56 7 (3091 + f) = δ 5 f) → Ko h') → ∃ g, wX12_takeOver_128 7 Ko g 0 h25 := by
    intro Ko kk
    have loop : ∀ (d : Nat) (i : Int) (hh : HP), (δ 0 1 - i).toNat = d → 0 ≤ i → i ≤ δ 0 1 → (∀ k, k ≠ 56 → hh k = h7 k) → (∀ j, ¬ (3091 ≤ j ∧ j < 3091 + i) → hh 56 7 j = h25 56 7 j) → (∀ f, 0 ≤ f → f < i → hh 56 7 (3091 + f) = δ 5 f) → wX12_takeOver_128 7 Ko (d + 1) i hh := by
      intro d
      induction d with
      | zero =>
        intro i hh hd i0 i1 f g v
        have e : i = δ 0 1 := by omega
        subst e
        rw [wX12_takeOver_128, f 49 (by decide), v49.2]
        exact ⟨by omega, by omega, fun _ => kk hh f g v, fun u => absurd (Int.le_refl _) u⟩
      | succ d ih =>
        intro i hh hd i0 i1 f g v
        have hd1 : (δ 0 1 - (i + 1)).toNat = d := by omega
        rw [wX12_takeOver_128, f 49 (by decide), v49.2]
        refine ⟨by omega, by omega, fun u => absurd u (by omega), fun _ => ⟨by omega, by omega, fun h30 e30 => ih (i + 1) h30 hd1 (by omega) (by omega) (fun k hk => by rw [e30, up_k hk]; exact f k hk) (fun j hj => by rw [e30, up_j (by omega)]; exact g j (by omega)) (fun x x0 x1 => ?_)⟩⟩
        rw [e30, up_ji, f 54 (by decide)]
        by_cases w : x = i
        · rw [if_pos (by omega), w]; exact v54 i i0 (by omega)
        · rw [if_neg (by omega)]; exact v x x0 (by omega)
    exact ⟨_, loop _ 0 h25 rfl (by omega) n8.1 f25 (fun _ _ => rfl) (fun f x0 x1 => by omega)⟩
  refine l128 _ (fun h33 f33 g33 s33 h34 e34 h35 e35 h36 e36 h37 e37 => ?_)
  have k37 : ∀ k, k ≠ 12 → k ≠ 56 → h37 k = h7 k := fun k a b => by rw [e37, up_k a, e36, up_k a, e35, up_k a, e34, up_k b, f33 k b]
  have z56 : ∀ j, h37 56 7 j = if j = 3089 then -1 else h33 56 7 j := fun j => by rw [e37, up_k (by decide), e36, up_k (by decide), e35, up_k (by decide), e34, up_ji]
  have row : ∀ j, 0 ≤ j → j < 3091 → j ≠ 3089 → h37 56 7 j = if j < 257 * δ 0 0 ∧ j % 257 < 12 then h7 55 7 (12 * (j / 257) + j % 257) else 0 := fun j j0 j1 j2 => by rw [z56, if_neg j2, g33 j (by omega), g25 j j0 (by omega)]
  refine k h37 (fun k a b => by
    rw [k37 k a (by omega)]
    funext i
    exact k7 k i (by omega)) (fun j a b c => ?_) ⟨?_, ?_, ?_⟩ ⟨⟨by rw [k37 49 (by decide) (by decide)]; exact v49.1, by rw [k37 49 (by decide) (by decide)]; exact v49.2⟩, fun c c0 c1 => by rw [k37 50 (by decide) (by decide)]; exact v50 c c0 c1, fun f x0 x1 => by rw [k37 51 (by decide) (by decide), k37 52 (by decide) (by decide), k37 53 (by decide) (by decide), k37 54 (by decide) (by decide)]; exact ⟨v51 f x0 x1, v52 f x0 x1, v53 f x0 x1, v54 f x0 x1⟩⟩ (fun g => ⟨⟨?_, ?_, ?_, ?_, ?_, ?_, ?_⟩, fun f x0 x1 => ?_, fun c c0 c1 => ⟨⟨?_, ?_, ?_, ?_, ?_, ?_⟩, fun i i0 i1 => ?_, fun kk k0 k1 => ?_⟩⟩)
  · rw [e37, up_j c, e36, up_j b, e35, up_j a, e34, up_k (by decide), f33 12 (by decide), k7 12 7 (by omega)]
  · rw [e37, up_j (by decide), e36, up_j (by decide), e35, up_eq]
  · rw [e37, up_j (by decide), e36, up_eq]
  · rw [e37, up_eq]
  · rw [row _ (by omega) (by omega) (by omega), if_neg (by omega)]; rfl
  · rw [row _ (by omega) (by omega) (by omega), if_neg (by omega)]; rfl
  · rw [row _ (by omega) (by omega) (by omega), if_neg (by omega)]; rfl
  · rw [row _ (by omega) (by omega) (by omega), if_neg (by omega)]; rfl
  · rw [row _ (by omega) (by omega) (by omega), if_neg (by omega)]; rfl
  · rw [z56, if_pos rfl]; rfl
  · rw [row _ (by omega) (by omega) (by omega), if_neg (by omega)]; rfl
  · rw [z56, if_neg (by omega)]; exact s33 f x0 x1
  · rw [row _ (by omega) (by omega) (by omega), if_neg (by omega)]; rfl
  · rw [row _ (by omega) (by omega) (by omega), if_neg (by omega)]; rfl
  · rw [row _ (by omega) (by omega) (by omega), if_neg (by omega)]; rfl
  · rw [row _ (by omega) (by omega) (by omega), if_neg (by omega)]; rfl
  · rw [row _ (by omega) (by omega) (by omega), if_neg (by omega)]; rfl
  · rw [row _ (by omega) (by omega) (by omega), if_neg (by omega)]; rfl
  · have : i < (0 : Int) := i1
    omega
  · have cv := d4 c kk c0 c1 k0 k1 (by omega)
    have k3 : kk = 0 ∨ kk = 1 ∨ kk = 2 := by omega
    have at' : ∀ i, 0 ≤ i → i < 4 → h37 56 7 (257 * c + 4 * kk + i) = h 55 7 (12 * (12 + c) + 4 * kk + i) := fun i i0 i1 => by
      have dv : (257 * c + 4 * kk + i) / 257 = c := by rcases k3 with u | u | u <;> subst u <;> omega
      have md : (257 * c + 4 * kk + i) % 257 = 4 * kk + i := by rcases k3 with u | u | u <;> subst u <;> omega
      rw [row _ (by omega) (by omega) (by omega), dv, md, if_pos (by omega), v55 _ (by omega) (by omega)]
      congr 1
      omega
    have z : h37 56 7 (257 * c + 38 + 73 * kk) = 0 := by
      have md : (257 * c + 38 + 73 * kk) % 257 = 38 + 73 * kk := by rcases k3 with u | u | u <;> subst u <;> omega
      rw [row _ (by omega) (by omega) (by omega), md, if_neg (by omega)]
    have a0 := at' 0 (by omega) (by omega)
    rw [show 257 * c + 4 * kk + 0 = 257 * c + 4 * kk by omega, show 12 * (12 + c) + 4 * kk + 0 = 12 * (12 + c) + 4 * kk by omega] at a0
    refine ⟨?_, fun u => ?_, fun _ => z, ?_⟩
    · show _ = if 0 < δ 8 (3 * c + kk) then 1 else 0
      rw [a0]; exact cv.1
    · have u' : 0 < δ 8 (3 * c + kk) := u
      have cc := cv.2 u'
      rw [at' 1 (by omega) (by omega), at' 2 (by omega) (by omega), at' 3 (by omega) (by omega), cc.1, cc.2.1, cc.2.2]
      show _ = (if 0 < δ 8 (3 * c + kk) then δ 6 (3 * c + kk) else g 9 (3 * c + kk) 0) ∧ _ = (if 0 < δ 8 (3 * c + kk) then δ 7 (3 * c + kk) else g 10 (3 * c + kk) 0) ∧ _ = δ 8 (3 * c + kk)
      rw [if_pos u', if_pos u']
      exact ⟨rfl, rfl, rfl⟩
    · unfold LaidR
      rw [z]
      exact ⟨by omega, fun i i0 i1 => by omega, fun i j i0 i1 i2 => by omega, fun n _ => IsMax.zero, fun n _ => IsMax.zero, fun _ i i0 i1 => by omega⟩
