/-! the reference: a packet comes; eligible, deadline, fits, who is chosen -/
theorem FrV.up60 {h : HP} {i j v : Int} : FrV h (up h 60 i j v) := ⟨fun k _ _ _ k4 => up_k k4, fun j _ _ => by rw [up_k (by decide)]⟩
theorem pushA_row {r r' : Int → Int} {π : PL} {σ : ST} {l z : Int} (ht : treeOK π) (q : RowR r π σ) (hq : ∀ b, 0 ≤ b → b < π 0 0 → 0 ≤ σ 6 b 0 ∧ σ 6 b 0 ≤ 20) (l0 : 0 ≤ l) (l1 : l < π 0 0) (h20 : σ 6 l 0 < 20) (e : ∀ j, r' j = if j = 257 * l + 17 then σ 6 l 0 + 1 else if j = 257 * l + 18 + σ 6 l 0 then z else r j) : RowR r' π (pushA σ l z) := by
  have n12 := ht.2.1
  have ql := hq l l0 l1
  obtain ⟨q1, q2, q3⟩ := q
  have en : ∀ j, j ≠ 257 * l + 17 → j ≠ 257 * l + 18 + σ 6 l 0 → r' j = r j := fun j h1 h2 => by rw [e j, if_neg h1, if_neg h2]
  have g : ∀ k, k ≠ 6 → k ≠ 7 → pushA σ l z k = σ k := fun k k1 k2 => pushA_k k1 k2
  unfold RowR
  rw [g 0 (by decide) (by decide), g 1 (by decide) (by decide), g 2 (by decide) (by decide), g 3 (by decide) (by decide), g 4 (by decide) (by decide), g 5 (by decide) (by decide), g 8 (by decide) (by decide)]
  refine ⟨?_, fun f f0 f1 => ?_, fun b b0 b1 => ⟨?_, fun i i0 i1 => ?_, fun k' k0 k1 => ?_⟩⟩
  · rw [en 3084 (by omega) (by omega), en 3085 (by omega) (by omega), en 3086 (by omega) (by omega), en 3087 (by omega) (by omega), en 3088 (by omega) (by omega), en 3089 (by omega) (by omega), en 3090 (by omega) (by omega)]; exact q1
  · rw [en _ (by omega) (by omega)]; exact q2 f f0 f1
  · obtain ⟨d1, d2, d3, d4, d5, d6⟩ := (q3 b b0 b1).1
    rw [en _ (by omega) (by omega), en (257 * b + 13) (by omega) (by omega), en (257 * b + 14) (by omega) (by omega), en (257 * b + 15) (by omega) (by omega), en (257 * b + 16) (by omega) (by omega)]
    refine ⟨d1, d2, d3, d4, d5, ?_⟩
    by_cases y : b = l
    · subst y; rw [e, if_pos rfl, pushA_6]
    · rw [en _ (by omega) (by omega), pushA_6o y]; exact d6
  · have qb := hq b b0 b1
    by_cases y : b = l
    · subst y
      rw [pushA_6] at i1
      rw [pushA_7, e, if_neg (by omega)]
      by_cases w : i = σ 6 b 0
      · rw [if_pos w, if_pos (by omega)]
      · rw [if_neg w, if_neg (by omega)]; exact (q3 b b0 b1).2.1 i i0 (by omega)
    · rw [pushA_6o y] at i1
      rw [pushA_7o y, en _ (by omega) (by omega)]; exact (q3 b b0 b1).2.1 i i0 i1
  · have k3 : k' = 0 ∨ k' = 1 ∨ k' = 2 := by omega
    refine ((q3 b b0 b1).2.2 k' k0 k1).move (fun j hj => en j ?_ ?_) (by rw [g 9 (by decide) (by decide)]) (by rw [g 10 (by decide) (by decide)]) (by rw [g 11 (by decide) (by decide)]) (by rw [g 12 (by decide) (by decide)]) (by rw [g 13 (by decide) (by decide)]) (by rw [cur_eq (g 1 (by decide) (by decide)) (g 2 (by decide) (by decide))]; exact Int.le_refl _) (by rw [g 0 (by decide) (by decide)]; exact Int.le_refl _)
    · rcases k3 with w | w | w <;> subst w <;> omega
    · rcases k3 with w | w | w <;> subst w <;> omega
theorem lost_row {r r' : Int → Int} {π : PL} {σ : ST} {l : Int} (ht : treeOK π) (q : RowR r π σ) (hq : ∀ b, 0 ≤ b → b < π 0 0 → 0 ≤ σ 6 b 0 ∧ σ 6 b 0 ≤ 20) (l0 : 0 ≤ l) (l1 : l < π 0 0) (e : ∀ j, r' j = if j = 257 * l + 16 then σ 5 l 0 + 1 else r j) : RowR r' π (up σ 5 l 0 (σ 5 l 0 + 1)) := by
  have n12 := ht.2.1
  obtain ⟨q1, q2, q3⟩ := q
  have en : ∀ j, j ≠ 257 * l + 16 → r' j = r j := fun j h1 => by rw [e j, if_neg h1]
  have g : ∀ k, k ≠ 5 → up σ 5 l 0 (σ 5 l 0 + 1) k = σ k := fun k k1 => up_k k1
  unfold RowR
  rw [g 0 (by decide), g 1 (by decide), g 2 (by decide), g 3 (by decide), g 4 (by decide), g 6 (by decide), g 7 (by decide), g 8 (by decide)]
  refine ⟨?_, fun f f0 f1 => ?_, fun b b0 b1 => ⟨?_, fun i i0 i1 => ?_, fun k' k0 k1 => ?_⟩⟩
  · rw [en 3084 (by omega), en 3085 (by omega), en 3086 (by omega), en 3087 (by omega), en 3088 (by omega), en 3089 (by omega), en 3090 (by omega)]; exact q1
  · rw [en _ (by omega)]; exact q2 f f0 f1
  · obtain ⟨d1, d2, d3, d4, d5, d6⟩ := (q3 b b0 b1).1
    rw [en _ (by omega), en (257 * b + 13) (by omega), en (257 * b + 14) (by omega), en (257 * b + 15) (by omega), en (257 * b + 17) (by omega)]
    refine ⟨d1, d2, d3, d4, ?_, d6⟩
    by_cases y : b = l
    · subst y; rw [e, if_pos rfl, up_eq]
    · rw [en _ (by omega), up_i y]; exact d5
  · have qb := hq b b0 b1
    rw [en _ (by omega)]; exact (q3 b b0 b1).2.1 i i0 i1
  · have k3 : k' = 0 ∨ k' = 1 ∨ k' = 2 := by omega
    refine ((q3 b b0 b1).2.2 k' k0 k1).move (fun j hj => en j ?_) (by rw [g 9 (by decide)]) (by rw [g 10 (by decide)]) (by rw [g 11 (by decide)]) (by rw [g 12 (by decide)]) (by rw [g 13 (by decide)]) (by rw [cur_eq (g 1 (by decide)) (g 2 (by decide))]; exact Int.le_refl _) (by rw [g 0 (by decide)]; exact Int.le_refl _)
    rcases k3 with w | w | w <;> subst w <;> omega
theorem comes_r {h : HP} {π : PL} {K l z : Int} {σ : ST} {P : Int → HP → Prop} (x : RX h π K σ) (l0 : 0 ≤ l) (l1 : l < π 0 0) (hk : kids π l = 0) (hz : 1 ≤ z ∧ z ≤ 64) (k : ∀ y h', (y = 0 ∨ y = 1) → (y = 1 ↔ σ 6 l 0 < 20) → FrV h h' → RX h' π (K + 1) (acceptA π σ l z) → P y h') : wX12_comes 7 l z h P := by
  obtain ⟨hp, pr, inv, row⟩ := id x
  have n12 := hp.1.2.1
  have ql := inv.qln l l0 l1
  have e17 := (row.2.2 l l0 l1).1.2.2.2.2.2
  unfold wX12_comes
  rw [e17]
  refine ⟨by omega, by omega, fun c20 => ⟨13, ?_⟩, fun c20 => ⟨by omega, by omega, fun h30 e30 => ?_⟩⟩
  · have h20 : σ 6 l 0 < 20 := by omega
    have eA : acceptA π σ l z = climbW π σ 13 (pushA σ l z) l := by unfold acceptA; rw [if_neg (by omega)]
    have ipush := pushA_inv inv hk h20 hz
    have iAcc : AInv π (K + 1) (acceptA π σ l z) := acceptA_inv hp.1 inv l0 l1 hk hz
    -- who was active
    have first : ∀ (d : Nat) (a : Int) (h' : HP), (a = 12 ∨ (0 ≤ a ∧ a < π 0 0 ∧ a < d)) → inCh π l a → (∀ k, k ≠ 60 → h' k = h k) → (∀ b, 0 ≤ b → b < π 0 0 → inCh π l b → ¬ inCh π a b → (h' 60 7 b = 0 ∨ h' 60 7 b = 1) ∧ (h' 60 7 b = 1 ↔ 0 < hel π σ b)) →
        wX12_comes_38 7 l z (257 * l) (fun h13 => (0 ≤ 257 * l + 17 ∧ 257 * l + 17 < 3099) ∧ (0 ≤ 257 * l + 18 + (h13 56 7 (257 * l + 17)) ∧ 257 * l + 18 + (h13 56 7 (257 * l + 17)) < 3099) ∧ ∀ h15 : HP, h15 = up h13 56 7 (257 * l + 18 + (h13 56 7 (257 * l + 17))) z → (0 ≤ 257 * l + 17 ∧ 257 * l + 17 < 3099) ∧ (0 ≤ 257 * l + 17 ∧ 257 * l + 17 < 3099) ∧ ∀ h18 : HP, h18 = up h15 56 7 (257 * l + 17) ((h15 56 7 (257 * l + 17)) + 1) → (∃ f27 : Nat, wX12_comes_105 7 l z (fun h28 => P 1 h28) f27 l h18)) (d + 1) (rc a) h' := by
      intro d
      induction d with
      | zero =>
        intro a h' ha hla f q
        have ea : a = 12 := by omega
        subst ea
        rw [wX12_comes_38]
        have r12 : rc 12 = -1 := rfl
        rw [r12]
        refine ⟨by omega, fun _ => ?_, fun w => absurd rfl w⟩
        have x' : h' 56 = h 56 := f 56 (by decide)
        rw [x', e17]
        refine ⟨by omega, by omega, fun h15 e15 => ⟨by omega, by omega, fun h18 e18 => ⟨13, ?_⟩⟩⟩
        have y17 : h15 56 7 (257 * l + 17) = σ 6 l 0 := by rw [e15, up_j (by omega), x', e17]
        rw [y17] at e18
        have row18 : RowR (h18 56 7) π (pushA σ l z) := pushA_row hp.1 row (fun b b0 b1 => inv.qln b b0 b1) l0 l1 h20 (fun j => by rw [e18, up_ji, e15, up_ji, x'])
        have f18 : FrV h h18 := by
          rw [e18, e15]
          refine FrV.tr ⟨fun k k1 k2 k3 k4 => ?_, fun j _ _ => ?_⟩ (FrV.up56.tr FrV.up56)
          · exact f k k4
          · rw [f 12 (by decide)]
        have a60 : ∀ b, 0 ≤ b → b < π 0 0 → inCh π l b → (h18 60 7 b = 0 ∨ h18 60 7 b = 1) ∧ (h18 60 7 b = 1 ↔ 0 < hel π σ b) := fun b b0 b1 hb => by
          rw [e18, up_k (by decide), e15, up_k (by decide)]
          exact q b b0 b1 hb (fun u => by rw [inCh_12] at u; omega)
        have second : ∀ (d : Nat) (a : Int) (h2 : HP) (τ : ST), (a = 12 ∨ (0 ≤ a ∧ a < π 0 0 ∧ a < d)) → inCh π l a → FrV h h2 → h2 60 = h18 60 → RX h2 π K τ → climbW π σ (d + 1) τ a = acceptA π σ l z → wX12_comes_105 7 l z (fun h28 => P 1 h28) (d + 1) (rc a) h2 := by
          intro d
          induction d with
          | zero =>
            intro a h2 τ ha hla f2 e60 x2 hcl
            have ea : a = 12 := by omega
            subst ea
            rw [wX12_comes_105, show rc 12 = -1 from rfl]
            refine ⟨by omega, fun _ => k 1 h2 (Or.inr rfl) ⟨fun _ => h20, fun _ => rfl⟩ f2 ?_, fun w => absurd rfl w⟩
            have : climbW π σ (0 + 1) τ 12 = τ := by unfold climbW; rw [if_pos rfl]
            rw [this] at hcl
            rw [← hcl]
            exact ⟨x2.1, x2.2.1, x2.2.2.1.mono (by omega), x2.2.2.2⟩
          | succ d ih =>
            intro a h2 τ ha hla f2 e60 x2 hcl
            by_cases ea : a = 12
            · subst ea
              rw [wX12_comes_105, show rc 12 = -1 from rfl]
              refine ⟨by omega, fun _ => k 1 h2 (Or.inr rfl) ⟨fun _ => h20, fun _ => rfl⟩ f2 ?_, fun w => absurd rfl w⟩
              have : climbW π σ (d + 1 + 1) τ 12 = τ := by unfold climbW; rw [if_pos rfl]
              rw [this] at hcl
              rw [← hcl]
              exact ⟨x2.1, x2.2.1, x2.2.2.1.mono (by omega), x2.2.2.2⟩
            · have a0 : 0 ≤ a := by omega
              have a1 : a < π 0 0 := by omega
              have ra : rc a = a := by unfold rc; rw [if_neg ea]
              have ecl : climbW π σ (d + 1 + 1) τ a = climbW π σ (d + 1) (if hel π σ a = 0 then wakeA π τ a else τ) (π 1 a) := by
                show (if a = 12 then _ else _) = _
                rw [if_neg ea]
              rw [ecl] at hcl
              have pa : π 1 a = 12 ∨ (0 ≤ π 1 a ∧ π 1 a < π 0 0 ∧ π 1 a < d) := by
                rcases hp.1.2.2 a a0 a1 with w | w
                · exact Or.inl w
                · exact Or.inr ⟨w.1, by omega, by omega⟩
              have lpa : inCh π l (π 1 a) := by
                obtain ⟨j, hj⟩ := hla
                exact inCh_tr j hj ((inCh_iff ea).mpr (Or.inr (inCh_rf _ _)))
              obtain ⟨q1, q2⟩ := a60 a a0 a1 hla
              have hr := inv.hel_rng hp.1 a
              have fin : ∀ h3 τ', FrV h h3 → h3 60 = h18 60 → RX h3 π K τ' → climbW π σ (d + 1) τ' (π 1 a) = acceptA π σ l z → wX12_comes_127 7 l z a (fun y4 hy => wX12_comes_105 7 l z (fun h28 => P 1 h28) (d + 1) y4 hy) h3 := by
                intro h3 τ' f3 e3 x3 hc3
                unfold wX12_comes_127
                rw [x3.2.1.par a0 a1]
                exact ⟨by omega, ih (π 1 a) h3 τ' pa lpa f3 e3 x3 hc3⟩
              rw [ra, wX12_comes_105, e60]
              refine ⟨by omega, fun w => absurd w (by omega), fun _ => ⟨by omega, by omega, fun w => ?_, fun w => ?_⟩⟩
              · rw [if_neg (by have := q2.mp (by omega); omega)] at hcl
                exact fin h2 τ f2 e60 x2 hcl
              · rw [if_pos (by
                  by_cases v : 0 < hel π σ a
                  · have := q2.mpr v; omega
                  · omega)] at hcl
                exact wake_r x2 a0 a1 (fun h3 f3 e3 x3 => fin h3 _ (f2.tr f3) (by rw [e3]; exact e60) x3 hcl)
        have rl : rc l = l := by unfold rc; rw [if_neg (by omega)]
        have := second 12 l h18 (pushA σ l z) (Or.inr ⟨l0, l1, by omega⟩) (inCh_rf _ _) f18 rfl ⟨hp, pr.fv f18, ipush, row18⟩ eA.symm
        rw [rl] at this
        exact this
      | succ d ih =>
        intro a h' ha hla f q
        by_cases ea : a = 12
        · -- the same as at the end: take the smaller fuel's text at the link
          subst ea
          have := ih 12 h' (Or.inl rfl) hla f q
          rw [show rc 12 = -1 from rfl, wX12_comes_38] at this ⊢
          exact ⟨this.1, this.2.1, fun w => absurd rfl w⟩
        · have a0 : 0 ≤ a := by omega
          have a1 : a < π 0 0 := by omega
          have ra : rc a = a := by unfold rc; rw [if_neg ea]
          have pa : π 1 a = 12 ∨ (0 ≤ π 1 a ∧ π 1 a < π 0 0 ∧ π 1 a < d) := by
            rcases hp.1.2.2 a a0 a1 with w | w
            · exact Or.inl w
            · exact Or.inr ⟨w.1, by omega, by omega⟩
          have lpa : inCh π l (π 1 a) := by
            obtain ⟨j, hj⟩ := hla
            exact inCh_tr j hj ((inCh_iff ea).mpr (Or.inr (inCh_rf _ _)))
          have x' : RX h' π K σ := ⟨hp, pr.congr (fun k' k1 k2 => f k' (by omega)), inv, by rw [f 56 (by decide)]; exact row⟩
          rw [ra, wX12_comes_38]
          refine ⟨by omega, fun w => absurd w (by omega), fun _ => active_r x' a0 a1 (fun y hy hq => ⟨by omega, hy, fun h8 e8 => ?_⟩)⟩
          have p8 : h8 50 7 a = rc (π 1 a) := by rw [e8, up_k (by decide)]; exact x'.2.1.par a0 a1
          rw [p8]
          refine ⟨by omega, ih (π 1 a) h8 pa lpa (fun k' hk' => by rw [e8, up_k hk', f k' hk']) (fun b b0 b1 hb hn => ?_)⟩
          rw [e8, up_ji]
          by_cases w : b = a
          · subst w; rw [if_pos rfl]; exact ⟨hy, hq⟩
          · rw [if_neg w]
            exact q b b0 b1 hb (fun u => by
              rcases (inCh_iff ea).mp u with v | v
              · exact w v.symm
              · exact hn v)
    have rl : rc l = l := by unfold rc; rw [if_neg (by omega)]
    have := first 12 l h (Or.inr ⟨l0, l1, by omega⟩) (inCh_rf _ _) (fun _ _ => rfl) (fun b b0 b1 hb hn => absurd hb hn)
    rw [rl] at this
    exact this
  · have eA : acceptA π σ l z = up σ 5 l 0 (σ 5 l 0 + 1) := by unfold acceptA; rw [if_pos (by omega)]
    have e16 := (row.2.2 l l0 l1).1.2.2.2.2.1
    rw [e16] at e30
    refine k 0 h30 (Or.inl rfl) ⟨fun q => by omega, fun q => by omega⟩ (by rw [e30]; exact FrV.up56) ⟨x.1, ?_, ?_, ?_⟩
    · exact pr.fv (by rw [e30]; exact FrV.up56)
    · rw [eA]; exact lostA_inv inv l
    · rw [eA]
      exact lost_row hp.1 row (fun b b0 b1 => inv.qln b b0 b1) l0 l1 (fun j => by rw [e30, up_ji])
