/-! the reference: choosing and sending -/
theorem RowR.gen {r r' : Int → Int} {π : PL} {σ τ : ST} (ht : treeOK π) (q : RowR r π σ)
    (e : ∀ c i, 0 ≤ c → c < π 0 0 → ((0 ≤ i ∧ i < 12) ∨ (38 ≤ i ∧ i < 257)) → r' (257 * c + i) = r (257 * c + i))
    (h1 : r' 3084 = τ 0 0 0 ∧ r' 3085 = τ 0 1 0 ∧ r' 3086 = τ 0 2 0 ∧ r' 3087 = τ 0 3 0 ∧ r' 3088 = τ 4 12 0 ∧ r' 3089 = τ 0 4 0 ∧ r' 3090 = τ 0 5 0)
    (h2 : ∀ f, 0 ≤ f → f < π 0 1 → r' (3091 + f) = τ 8 f 0)
    (h3 : ∀ c, 0 ≤ c → c < π 0 0 → r' (257 * c + 12) = τ 1 c 0 ∧ r' (257 * c + 13) = τ 2 c 0 ∧ r' (257 * c + 14) = τ 3 c 0 ∧ r' (257 * c + 15) = τ 4 c 0 ∧ r' (257 * c + 16) = τ 5 c 0 ∧ r' (257 * c + 17) = τ 6 c 0)
    (h4 : ∀ c i, 0 ≤ c → c < π 0 0 → 0 ≤ i → i < τ 6 c 0 → r' (257 * c + 18 + i) = τ 7 c i)
    (e9 : τ 9 = σ 9) (e10 : τ 10 = σ 10) (e11 : τ 11 = σ 11) (e12 : τ 12 = σ 12) (e13 : τ 13 = σ 13)
    (hc : ∀ s, 0 ≤ s → s < 3 * π 0 0 → cur σ s ≤ cur τ s) (hT : σ 0 0 0 ≤ τ 0 0 0) : RowR r' π τ := by
  refine ⟨h1, h2, fun c c0 c1 => ⟨h3 c c0 c1, fun i i0 i1 => h4 c i c0 c1 i0 i1, fun k k0 k1 => ?_⟩⟩
  refine ((q.2.2 c c0 c1).2.2 k k0 k1).move (fun j hj => ?_) (by rw [e9]) (by rw [e10]) (by rw [e11]) (by rw [e12]) (by rw [e13]) (hc _ (by omega) (by omega)) hT
  have k3 : k = 0 ∨ k = 1 ∨ k = 2 := by omega
  have := e c (j - 257 * c) c0 c1 (by rcases k3 with z | z | z <;> subst z <;> omega)
  rw [show 257 * c + (j - 257 * c) = j by omega] at this
  exact this
theorem RowR.sen {r r' : Int → Int} {π : PL} {σ : ST} {a z : Int} (ht : treeOK π) (q : RowR r π σ) (hq : ∀ b, 0 ≤ b → b < π 0 0 → 0 ≤ σ 6 b 0 ∧ σ 6 b 0 ≤ 20) (a0 : 0 ≤ a) (a1 : a < π 0 0) (hz : 0 ≤ z) (e : ∀ j, r' j = if j = 257 * a + 12 then σ 1 a 0 + z else r j) : RowR r' π (up σ 1 a 0 (σ 1 a 0 + z)) := by
  have n12 := ht.2.1
  have en : ∀ j, j ≠ 257 * a + 12 → r' j = r j := fun j h1 => by rw [e j, if_neg h1]
  have g : ∀ k, k ≠ 1 → up σ 1 a 0 (σ 1 a 0 + z) k = σ k := fun k k1 => up_k k1
  refine q.gen ht (fun c i c0 c1 hi => en _ (by omega)) ?_ (fun f f0 f1 => ?_) (fun b b0 b1 => ?_) (fun b i b0 b1 i0 i1 => ?_) (g 9 (by decide)) (g 10 (by decide)) (g 11 (by decide)) (g 12 (by decide)) (g 13 (by decide)) (fun s s0 s1 => ?_) ?_
  · rw [en 3084 (by omega), en 3085 (by omega), en 3086 (by omega), en 3087 (by omega), en 3088 (by omega), en 3089 (by omega), en 3090 (by omega), g 0 (by decide), g 4 (by decide)]; exact q.1
  · rw [en _ (by omega), g 8 (by decide)]; exact q.2.1 f f0 f1
  · obtain ⟨d1, d2, d3, d4, d5, d6⟩ := (q.2.2 b b0 b1).1
    rw [en (257 * b + 13) (by omega), en (257 * b + 14) (by omega), en (257 * b + 15) (by omega), en (257 * b + 16) (by omega), en (257 * b + 17) (by omega), g 2 (by decide), g 3 (by decide), g 4 (by decide), g 5 (by decide), g 6 (by decide)]
    refine ⟨?_, d2, d3, d4, d5, d6⟩
    by_cases y : b = a
    · subst y; rw [e, if_pos rfl, up_eq]
    · rw [en _ (by omega), up_i y]; exact d1
  · rw [g 6 (by decide)] at i1
    have := hq b b0 b1
    rw [en _ (by omega), g 7 (by decide)]; exact (q.2.2 b b0 b1).2.1 i i0 i1
  · unfold cur
    rw [g 2 (by decide)]
    split
    · exact Int.le_refl _
    · by_cases y : s / 3 = a
      · rw [y, up_eq]; omega
      · rw [up_i y]; exact Int.le_refl _
  · rw [g 0 (by decide)]; exact Int.le_refl _
theorem RowR.gra {r r' : Int → Int} {π : PL} {σ : ST} {a z : Int} (ht : treeOK π) (q : RowR r π σ) (hq : ∀ b, 0 ≤ b → b < π 0 0 → 0 ≤ σ 6 b 0 ∧ σ 6 b 0 ≤ 20) (a0 : 0 ≤ a) (a1 : a < π 0 0) (hz : 0 ≤ z) (e : ∀ j, r' j = if j = 257 * a + 13 then σ 2 a 0 + z else r j) : RowR r' π (up σ 2 a 0 (σ 2 a 0 + z)) := by
  have n12 := ht.2.1
  have en : ∀ j, j ≠ 257 * a + 13 → r' j = r j := fun j h1 => by rw [e j, if_neg h1]
  have g : ∀ k, k ≠ 2 → up σ 2 a 0 (σ 2 a 0 + z) k = σ k := fun k k1 => up_k k1
  refine q.gen ht (fun c i c0 c1 hi => en _ (by omega)) ?_ (fun f f0 f1 => ?_) (fun b b0 b1 => ?_) (fun b i b0 b1 i0 i1 => ?_) (g 9 (by decide)) (g 10 (by decide)) (g 11 (by decide)) (g 12 (by decide)) (g 13 (by decide)) (fun s s0 s1 => ?_) ?_
  · rw [en 3084 (by omega), en 3085 (by omega), en 3086 (by omega), en 3087 (by omega), en 3088 (by omega), en 3089 (by omega), en 3090 (by omega), g 0 (by decide), g 4 (by decide)]; exact q.1
  · rw [en _ (by omega), g 8 (by decide)]; exact q.2.1 f f0 f1
  · obtain ⟨d1, d2, d3, d4, d5, d6⟩ := (q.2.2 b b0 b1).1
    rw [en (257 * b + 12) (by omega), en (257 * b + 14) (by omega), en (257 * b + 15) (by omega), en (257 * b + 16) (by omega), en (257 * b + 17) (by omega), g 1 (by decide), g 3 (by decide), g 4 (by decide), g 5 (by decide), g 6 (by decide)]
    refine ⟨d1, ?_, d3, d4, d5, d6⟩
    by_cases y : b = a
    · subst y; rw [e, if_pos rfl, up_eq]
    · rw [en _ (by omega), up_i y]; exact d2
  · rw [g 6 (by decide)] at i1
    have := hq b b0 b1
    rw [en _ (by omega), g 7 (by decide)]; exact (q.2.2 b b0 b1).2.1 i i0 i1
  · unfold cur
    rw [g 1 (by decide)]
    split
    · by_cases y : s / 3 = a
      · rw [y, up_eq]; omega
      · rw [up_i y]; exact Int.le_refl _
    · exact Int.le_refl _
  · rw [g 0 (by decide)]; exact Int.le_refl _
/-- where a number of the line's own stands in a row -/
def numP (i : Int) : Int := if i ≤ 3 then 3084 + i else 3085 + i
theorem RowR.num {r r' : Int → Int} {π : PL} {σ : ST} {i v : Int} (ht : treeOK π) (q : RowR r π σ) (hq : ∀ b, 0 ≤ b → b < π 0 0 → 0 ≤ σ 6 b 0 ∧ σ 6 b 0 ≤ 20) (hi : 0 ≤ i ∧ i ≤ 5) (hv : i = 0 → σ 0 0 0 ≤ v) (e : ∀ j, r' j = if j = numP i then v else r j) : RowR r' π (up σ 0 i 0 v) := by
  have n12 := ht.2.1
  have pp : numP i = 3084 + i ∧ i ≤ 3 ∨ numP i = 3085 + i ∧ 4 ≤ i := by unfold numP; split <;> omega
  have en : ∀ j, j ≠ numP i → r' j = r j := fun j h1 => by rw [e j, if_neg h1]
  have g : ∀ k, k ≠ 0 → up σ 0 i 0 v k = σ k := fun k k1 => up_k k1
  have ep : r' (numP i) = v := by rw [e, if_pos rfl]
  refine q.gen ht (fun c i c0 c1 hi => en _ (by omega)) ?_ (fun f f0 f1 => ?_) (fun b b0 b1 => ?_) (fun b i' b0 b1 i0 i1 => ?_) (g 9 (by decide)) (g 10 (by decide)) (g 11 (by decide)) (g 12 (by decide)) (g 13 (by decide)) (fun s s0 s1 => ?_) ?_
  · have one : ∀ j : Int, 0 ≤ j → j ≤ 5 → r (numP j) = σ 0 j 0 → r' (numP j) = up σ 0 i 0 v 0 j 0 := by
      intro j j0 j5 hj
      by_cases y : j = i
      · subst y; rw [up_eq, ep]
      · have : numP j ≠ numP i := by unfold numP; split <;> split <;> omega
        rw [en _ this, up_i y]; exact hj
    obtain ⟨r0, r1, r2, r3, r4, r5, r6⟩ := q.1
    refine ⟨one 0 (by omega) (by omega) r0, one 1 (by omega) (by omega) r1, one 2 (by omega) (by omega) r2, one 3 (by omega) (by omega) r3, ?_, one 4 (by omega) (by omega) r5, one 5 (by omega) (by omega) r6⟩
    rw [en _ (by omega), g 4 (by decide)]; exact r4
  · rw [en _ (by omega), g 8 (by decide)]; exact q.2.1 f f0 f1
  · rw [en (257 * b + 12) (by omega), en (257 * b + 13) (by omega), en (257 * b + 14) (by omega), en (257 * b + 15) (by omega), en (257 * b + 16) (by omega), en (257 * b + 17) (by omega), g 1 (by decide), g 2 (by decide), g 3 (by decide), g 4 (by decide), g 5 (by decide), g 6 (by decide)]
    exact (q.2.2 b b0 b1).1
  · rw [g 6 (by decide)] at i1
    have := hq b b0 b1
    rw [en _ (by omega), g 7 (by decide)]; exact (q.2.2 b b0 b1).2.1 i' i0 i1
  · rw [cur_eq (g 1 (by decide)) (g 2 (by decide))]; exact Int.le_refl _
  · by_cases y : i = 0
    · rw [y, up_eq]; exact hv y
    · rw [up_i (by omega)]; exact Int.le_refl _
theorem RowR.pop {r r' : Int → Int} {π : PL} {σ : ST} {l : Int} (ht : treeOK π) (q : RowR r π σ) (hq : ∀ b, 0 ≤ b → b < π 0 0 → 0 ≤ σ 6 b 0 ∧ σ 6 b 0 ≤ 20) (l0 : 0 ≤ l) (l1 : l < π 0 0) (hl : 0 < σ 6 l 0)
    (e : ∀ j, ¬ (257 * l + 17 ≤ j ∧ j < 257 * l + 38) → r' j = r j) (e17 : r' (257 * l + 17) = σ 6 l 0 - 1) (es : ∀ i, 0 ≤ i → i < σ 6 l 0 - 1 → r' (257 * l + 18 + i) = r (257 * l + 18 + (i + 1))) : RowR r' π (popA σ l) := by
  have n12 := ht.2.1
  have ql := hq l l0 l1
  have g : ∀ k, k ≠ 6 → k ≠ 7 → popA σ l k = σ k := fun k k1 k2 => popA_k k1 k2
  refine q.gen ht (fun c i c0 c1 hi => e _ (by omega)) ?_ (fun f f0 f1 => ?_) (fun b b0 b1 => ?_) (fun b i b0 b1 i0 i1 => ?_) (g 9 (by decide) (by decide)) (g 10 (by decide) (by decide)) (g 11 (by decide) (by decide)) (g 12 (by decide) (by decide)) (g 13 (by decide) (by decide)) (fun s s0 s1 => ?_) ?_
  · rw [e 3084 (by omega), e 3085 (by omega), e 3086 (by omega), e 3087 (by omega), e 3088 (by omega), e 3089 (by omega), e 3090 (by omega), g 0 (by decide) (by decide), g 4 (by decide) (by decide)]; exact q.1
  · rw [e _ (by omega), g 8 (by decide) (by decide)]; exact q.2.1 f f0 f1
  · obtain ⟨d1, d2, d3, d4, d5, d6⟩ := (q.2.2 b b0 b1).1
    rw [e (257 * b + 12) (by omega), e (257 * b + 13) (by omega), e (257 * b + 14) (by omega), e (257 * b + 15) (by omega), e (257 * b + 16) (by omega), g 1 (by decide) (by decide), g 2 (by decide) (by decide), g 3 (by decide) (by decide), g 4 (by decide) (by decide), g 5 (by decide) (by decide)]
    refine ⟨d1, d2, d3, d4, d5, ?_⟩
    by_cases y : b = l
    · subst y; rw [e17, popA_6]
    · rw [e _ (by omega), popA_6o y]; exact d6
  · by_cases y : b = l
    · subst y
      rw [popA_6] at i1
      rw [es i i0 i1, popA_7]
      show _ = σ 7 b ((i + 1) % 20)
      rw [Int.emod_eq_of_lt (by omega) (by omega)]
      exact (q.2.2 b b0 b1).2.1 (i + 1) (by omega) (by omega)
    · rw [popA_6o y] at i1
      have := hq b b0 b1
      rw [e _ (by omega), popA_7o y]; exact (q.2.2 b b0 b1).2.1 i i0 i1
  · rw [cur_eq (g 1 (by decide) (by decide)) (g 2 (by decide) (by decide))]; exact Int.le_refl _
  · rw [g 0 (by decide) (by decide)]; exact Int.le_refl _
theorem putV_r0 {h : HP} {π : PL} {c v : Int} {σ : ST} {P : HP → Prop} (hp : PlanOK π) (pr : PlanR h π) (row : RowR (h 56 7) π σ) (h6 : ∀ b, 0 ≤ b → b < π 0 0 → 0 ≤ σ 6 b 0 ∧ σ 6 b 0 ≤ 20) (h4 : ∀ b, (0 ≤ b ∧ b < π 0 0) ∨ b = 12 → 0 ≤ σ 4 b 0 ∧ σ 4 b 0 ≤ 100000000) (c0 : 0 ≤ c) (c1 : c < π 0 0) (hv : 0 ≤ v ∧ v ≤ 100000000) (k : ∀ h', FrV h h' → (∀ k, k ≠ 56 → h' k = h k) → RowR (h' 56 7) π (virA π σ c v) → P h') : wX12_putVirtual 7 c v h P := by
  have n12 := hp.1.2.1
  have pp := par_ok hp.1 c0 c1
  have ep := pr.par c0 c1
  unfold wX12_putVirtual
  refine ⟨by omega, fun h1 e1 => ?_⟩
  have e50 : h1 50 7 c = rc (π 1 c) := by rw [e1, up_k (by decide)]; exact ep
  have rr : -1 ≤ rc (π 1 c) ∧ rc (π 1 c) < 12 := by unfold rc; split <;> omega
  rw [e50]
  refine ⟨by omega, ⟨by omega, fun _ => by omega⟩, fun t6 ht6 => ?_⟩
  have e6 : t6 = if π 1 c = 12 then 3088 else 257 * π 1 c + 15 := by
    by_cases z : π 1 c = 12
    · have : rc (π 1 c) = -1 := by unfold rc; rw [if_pos z]
      rw [if_pos z]; exact ht6.2 this
    · have : rc (π 1 c) = π 1 c := by unfold rc; rw [if_neg z]
      rw [if_neg z, ht6.1 (by omega), this]
  have t6r : 0 ≤ t6 ∧ t6 < 3099 ∧ t6 ≠ 257 * c + 14 := by
    rw [e6]
    split <;> omega
  have y6 : h1 56 7 t6 = h 56 7 t6 := by rw [e1, up_j t6r.2.2]
  have p6 : 0 ≤ h 56 7 t6 ∧ h 56 7 t6 ≤ 100000000 := by
    rw [e6]
    split
    · rw [row.1.2.2.2.2.1]; exact h4 12 (Or.inr rfl)
    · rw [(row.2.2 (π 1 c) (by omega) (by omega)).1.2.2.2.1]; exact h4 _ (by omega)
  rw [y6]
  refine ⟨by omega, by omega, by omega, by omega, fun h11 e11 => ?_⟩
  refine k h11 (by rw [e11, e1]; exact FrV.up56.tr FrV.up56) (fun k' hk' => by rw [e11, up_k hk', e1, up_k hk']) (virA_row (p := t6) hp.1 row h6 c0 c1 e6 (fun j => ?_))
  rw [e11, up_ji, e1, up_ji]
theorem send_climb_r {l K : Int} {π : PL} {σ τ0 : ST} {Ko : HP → Prop} (hp : PlanOK π) (inv : AInv π K σ) {z : Int} (hz : 0 ≤ z ∧ z ≤ 64) {h0 : HP} (pr0 : PlanR h0 π) (z0 : h0 12 7 27 = z)
    (hK : ∀ h τ, (∀ k, k ≠ 56 → h k = h0 k) → RowR (h 56 7) π τ → τ = climbS π z 13 τ0 l → Ko h) :
    ∀ (d : Nat) (a : Int) (h : HP) (τ : ST), (a = 12 ∨ (0 ≤ a ∧ a < π 0 0 ∧ a < d)) → (∀ k, k ≠ 56 → h k = h0 k) → RowR (h 56 7) π τ →
      (∀ k, 8 ≤ k → τ k = σ k) → (∀ b, 0 ≤ b → b < π 0 0 → inCh π a b → τ 1 b = σ 1 b) → (∀ b, (0 ≤ b ∧ b < π 0 0) ∨ b = 12 → 0 ≤ τ 4 b 0 ∧ τ 4 b 0 ≤ 6500 * (σ 0 2 0 + 1)) → (∀ b, 0 ≤ b → b < π 0 0 → 0 ≤ τ 6 b 0 ∧ τ 6 b 0 ≤ 20) → climbS π z (d + 1) τ a = climbS π z 13 τ0 l →
      wX12_choose_166 7 l Ko (d + 1) (rc a) h := by
  have n12 := hp.1.2.1
  have cr := inv.2.2.1
  have tr := inv.1
  have br := inv.2.1
  have r12 : rc 12 = -1 := rfl
  have stop : ∀ (d : Nat) (h : HP) (τ : ST), (∀ k, k ≠ 56 → h k = h0 k) → RowR (h 56 7) π τ → climbS π z (d + 1) τ 12 = climbS π z 13 τ0 l → wX12_choose_166 7 l Ko (d + 1) (rc 12) h := by
    intro d h τ fr row hcl
    have e : climbS π z (d + 1) τ 12 = τ := by unfold climbS; rw [if_pos rfl]
    rw [wX12_choose_166, r12]
    exact ⟨by omega, fun _ => hK h τ fr row (by rw [← e]; exact hcl), fun c => absurd rfl c⟩
  intro d
  induction d with
  | zero =>
    intro a h τ ha fr row e8 e1 e4 e6 hcl
    have ea : a = 12 := by omega
    subst ea
    exact stop 0 h τ fr row hcl
  | succ d ih =>
    intro a h τ ha fr row e8 e1 e4 e6 hcl
    by_cases c : a = 12
    · subst c; exact stop (d + 1) h τ fr row hcl
    · have a0 : 0 ≤ a := by omega
      have a1 : a < π 0 0 := by omega
      have ra : rc a = a := by unfold rc; rw [if_neg c]
      have pr : PlanR h π := pr0.congr (fun k k1 k2 => fr k (by omega))
      have zz : h 12 7 27 = z := by rw [fr 12 (by decide)]; exact z0
      have pa : π 1 a = 12 ∨ (0 ≤ π 1 a ∧ π 1 a < π 0 0 ∧ π 1 a < d) := by
        rcases hp.1.2.2 a a0 a1 with q | q
        · exact Or.inl q
        · exact Or.inr ⟨q.1, by omega, by omega⟩
      have ecl : climbS π z (d + 1 + 1) τ a = climbS π z (d + 1) (stepS π z τ a) (π 1 a) := by
        show (if a = 12 then _ else _) = _
        rw [if_neg c]
      rw [ecl] at hcl
      have cls := inv.2.2.2.2.2.2.1 a a0 a1
      have cls1 := cls.1
      have cls2 := cls.2.1
      have so := inv.2.2.2.2.2.2.2.2.2 (3 * a + 1) (by omega) (by omega)
      have ea1 : τ 1 a 0 = σ 1 a 0 := by rw [e1 a a0 a1 (inCh_rf _ _)]
      have vB : 0 ≤ σ 12 (3 * a + 1) (σ 1 a 0 + z) ∧ σ 12 (3 * a + 1) (σ 1 a 0 + z) ≤ σ 3 a 0 + 6431 := by
        have o := so.2.1
        rw [cur_1] at o
        have o1 := o (σ 1 a 0) (Int.le_refl _)
        have o2 := o1.2 z hz.1
        have := cls.2.2.2.2.2.2.2.2
        omega
      have p4 := e4 (π 1 a) (by omega)
      have d1 := (row.2.2 a a0 a1).1.1
      rw [wX12_choose_166, ra, d1, zz, ea1]
      refine ⟨by omega, fun y => absurd y (by omega), fun _ => ⟨by omega, by omega, fun h39 e39 => ⟨by omega, ?_⟩⟩⟩
      have f39 : ∀ k, k ≠ 56 → h39 k = h k := fun k hk => by rw [e39, up_k hk]
      have row39 : RowR (h39 56 7) π (up τ 1 a 0 (τ 1 a 0 + z)) := row.sen hp.1 e6 a0 a1 hz.1 (fun j => by rw [e39, up_ji, ea1])
      have x12 : h39 56 7 (257 * a + 12) = σ 1 a 0 + z := by rw [(row39.2.2 a a0 a1).1.1, up_eq, ea1]
      have u : ∀ k, 8 ≤ k → (up τ 1 a 0 (τ 1 a 0 + z)) k = σ k := fun k hk => by rw [up_k (by omega)]; exact e8 k hk
      have q39 := (row39.2.2 a a0 a1).2.2 1 (by omega) (by omega)
      have c39 : cur (up τ 1 a 0 (τ 1 a 0 + z)) (3 * a + 1) = σ 1 a 0 + z := by rw [cur_1, up_eq, ea1]
      have so39 : slotOK (up τ 1 a 0 (τ 1 a 0 + z)) (3 * a + 1) := by
        unfold slotOK
        rw [u 11 (by omega), u 9 (by omega), u 10 (by omega), u 12 (by omega), u 13 (by omega), c39]
        obtain ⟨o1, o2, o3, o4⟩ := so
        rw [cur_1] at o2 o3
        exact ⟨o1, o2.mono (by omega), o3.mono (by omega), fun w => by omega⟩
      rw [x12]
      refine reachAll_F (π := π) (σ := up τ 1 a 0 (τ 1 a 0 + z)) (by omega) (by omega) q39 so39 (by rw [u 11 (by omega)]; exact cls.2.2.2.2.2.2.1) ⟨by rw [c39]; exact Int.le_refl _, by omega⟩ (by rw [c39]; omega) (by rw [u 12 (by omega)]; omega) ?_
      rw [u 12 (by omega)]
      have pr39 : PlanR h39 π := pr.congr (fun k k1 k2 => f39 k (by omega))
      refine putV_r0 hp pr39 row39 (fun b b0 b1 => by rw [up_k (by decide)]; exact e6 b b0 b1) (fun b hb => by rw [up_k (by decide)]; have := e4 b hb; omega) a0 a1 (by omega) (fun h44 fv f44 row44 => ⟨by omega, ?_⟩)
      have e50 : h44 50 7 a = rc (π 1 a) := by rw [f44 50 (by decide)]; exact pr39.par a0 a1
      have eS : stepS π z τ a = virA π (up τ 1 a 0 (τ 1 a 0 + z)) a (σ 12 (3 * a + 1) (σ 1 a 0 + z)) := by unfold stepS; rw [e8 12 (by omega), ea1]
      rw [← eS] at row44
      rw [e50]
      refine ih (π 1 a) h44 (stepS π z τ a) pa (fun k hk => by rw [f44 k hk, f39 k hk, fr k hk]) row44 (fun k hk => ?_) (fun b b0 b1 hb => ?_) (fun b hb => ?_) (fun b b0 b1 => ?_) hcl
      · rw [eS, virA_k (by omega) (by omega)]; exact u k hk
      · have w : b ≠ a := fun w => inCh_not_up hp.1 a0 a1 (by rw [w] at hb; exact hb)
        rw [eS, virA_k (by decide) (by decide), up_i w]
        exact e1 b b0 b1 ((inCh_iff c).mpr (Or.inr hb))
      · have := e4 b hb
        have c3 := cls.2.1
        by_cases w : b = π 1 a
        · rw [w, eS, virA_4, up_k (by decide)]; omega
        · rw [eS, virA_4o w, up_k (by decide)]; exact this
      · rw [eS, virA_k (by decide) (by decide), up_k (by decide)]; exact e6 b b0 b1
theorem stepS_num {π : PL} {z a i v : Int} {τ : ST} : stepS π z (up τ 0 i 0 v) a = up (stepS π z τ a) 0 i 0 v := by
  unfold stepS virA
  funext k b j
  by_cases k0 : k = 0
  · subst k0; simp [up, upr]
  · by_cases k1 : k = 1
    · subst k1; simp [up, upr]
    · by_cases k3 : k = 3
      · subst k3; simp [up, upr]
      · by_cases k4 : k = 4
        · subst k4; simp [up, upr]
        · simp [up, upr, k0, k1, k3, k4]
theorem climbS_num {π : PL} {z i v : Int} : ∀ (f : Nat) (τ : ST) (a : Int), climbS π z f (up τ 0 i 0 v) a = up (climbS π z f τ a) 0 i 0 v := by
  intro f
  induction f with
  | zero => intro τ a; rfl
  | succ f ih =>
    intro τ a
    show (if a = 12 then up τ 0 i 0 v else climbS π z f (stepS π z (up τ 0 i 0 v) a) (π 1 a)) = up (if a = 12 then τ else climbS π z f (stepS π z τ a) (π 1 a)) 0 i 0 v
    by_cases c : a = 12
    · rw [if_pos c, if_pos c]
    · rw [if_neg c, if_neg c, stepS_num, ih]
/-- who is chosen, and whether by grant -/
noncomputable def chA (π : PL) (σ : ST) : Int := if bgA σ (π 0 0).toNat ≠ -1 then bgA σ (π 0 0).toNat else byShareA π σ
noncomputable def chG (π : PL) (σ : ST) : Int := if bgA σ (π 0 0).toNat ≠ -1 then 1 else 0
theorem chooseA_ch {π : PL} {σ : ST} : chooseA π σ = if chA π σ = -1 then σ else sendA π σ (chA π σ) (chG π σ) := by
  unfold chooseA chA chG
  by_cases q : bgA σ (π 0 0).toNat ≠ -1
  · rw [if_pos q, if_pos q, if_pos q, if_neg q]
  · rw [if_neg q, if_neg q, if_neg q]
theorem chA_rng {π : PL} {K : Int} {σ : ST} (ht : treeOK π) (inv : AInv π K σ) : chA π σ = -1 ∨ (0 ≤ chA π σ ∧ chA π σ < π 0 0 ∧ 0 < σ 6 (chA π σ) 0 ∧ kids π (chA π σ) = 0) := by
  unfold chA
  split
  · rename_i q
    rcases bgA_rng σ (π 0 0).toNat with r | r
    · exact absurd r q
    · refine Or.inr ⟨r.1, by omega, r.2.2.1, ?_⟩
      exact (inv.2.2.2.2.2.2.1 _ r.1 (by omega)).2.2.2.2.2.2.2.1 r.2.2.2.1
  · rcases byShareA_rng (σ := σ) ht with r | r
    · exact Or.inl r
    · exact Or.inr ⟨r.1, r.2.1, by rw [← hel_leaf (σ := σ) ht r.1 r.2.1 r.2.2.2]; exact r.2.2.1, r.2.2.2⟩
def FrC (h h' : HP) : Prop := (∀ k, k ≠ 12 → k ≠ 56 → h' k = h k) ∧ (∀ j, j ≠ 26 → j ≠ 27 → j ≠ 28 → h' 12 7 j = h 12 7 j)
theorem choose_29_r {h : HP} {π : PL} {K l g : Int} {σ : ST} {P : HP → Prop} (x : RX h π K σ) (hl : l = -1 ∨ (0 ≤ l ∧ l < π 0 0 ∧ 0 < σ 6 l 0)) (hg : (g = 0 ∨ g = 1) ∧ h 12 7 28 = g)
    (k : ∀ h', FrC h h' → h' 12 7 26 = l → h' 12 7 28 = g → (l ≠ -1 → h' 12 7 27 = σ 7 l 0) → RowR (h' 56 7) π (if l = -1 then σ else sendA π σ l g) → P h') : wX12_choose_29 7 l P h := by
  have n12 := x.1.1.2.1
  obtain ⟨hp, pr, inv, row⟩ := id x
  have cr := inv.2.2.1
  have tr := inv.1
  unfold wX12_choose_29
  intro h10 e10
  have k10 : ∀ k, k ≠ 12 → h10 k = h k := fun k hk => by rw [e10, up_k hk]
  refine ⟨by omega, fun c => ?_, fun c => ?_⟩
  · rcases hl with c' | ⟨l0, l1, hq⟩
    · exact absurd c' c
    have ql := inv.qln l l0 l1
    have cls := inv.2.2.2.2.2.2.1 l l0 l1
    have cls1 := cls.1
    have z := cls.2.2.2.2.2.1 0 (Int.le_refl _) hq
    have e18 := (row.2.2 l l0 l1).2.1 0 (Int.le_refl _) hq
    have e17 := (row.2.2 l l0 l1).1.2.2.2.2.2
    have e13 := (row.2.2 l l0 l1).1.2.1
    rw [show 257 * l + 18 + 0 = 257 * l + 18 by omega] at e18
    refine ⟨by omega, fun h14 e14 => ?_⟩
    have k14 : ∀ k, k ≠ 12 → h14 k = h k := fun k hk => by rw [e14, up_k hk, k10 k hk]
    have z14 : h14 12 7 27 = σ 7 l 0 := by rw [e14, up_eq, k10 56 (by decide), e18]
    have g14 : h14 12 7 28 = g := by rw [e14, up_j (by decide), e10, up_j (by decide)]; exact hg.2
    have c14 : h14 12 7 26 = l := by rw [e14, up_j (by decide), e10, up_eq]
    have j14 : ∀ j, j ≠ 26 → j ≠ 27 → h14 12 7 j = h 12 7 j := fun j j1 j2 => by rw [e14, up_j j2, e10, up_j j1]
    -- the queue moves
    have loop : ∀ (Kz : HP → Prop), (∀ h', (∀ k, k ≠ 56 → h' k = h14 k) → (∀ j, ¬ (257 * l + 18 ≤ j ∧ j < 257 * l + 17 + σ 6 l 0) → h' 56 7 j = h 56 7 j) → (∀ i, 0 ≤ i → i < σ 6 l 0 - 1 → h' 56 7 (257 * l + 18 + i) = h 56 7 (257 * l + 18 + (i + 1))) → Kz h') →
        ∀ (d : Nat) (m : Int) (hh : HP), (σ 6 l 0 - m).toNat = d → 1 ≤ m → m ≤ σ 6 l 0 → (∀ k, k ≠ 56 → hh k = h14 k) → (∀ j, ¬ (257 * l + 18 ≤ j ∧ j < 257 * l + 17 + m) → hh 56 7 j = h 56 7 j) → (∀ i, 0 ≤ i → i < m - 1 → hh 56 7 (257 * l + 18 + i) = h 56 7 (257 * l + 18 + (i + 1))) → wX12_choose_61 7 l (257 * l) Kz (d + 1) m hh := by
      intro Kz hKz d
      induction d with
      | zero =>
        intro m hh hd hm1 hm2 f1 f2 f3
        have em : m = σ 6 l 0 := by omega
        subst em
        rw [wX12_choose_61, f2 (257 * l + 17) (by omega), e17]
        exact ⟨by omega, by omega, by omega, fun _ => hKz hh f1 f2 f3, fun y => absurd (Int.le_refl _) y⟩
      | succ d ih =>
        intro m hh hd hm1 hm2 f1 f2 f3
        rw [wX12_choose_61, f2 (257 * l + 17) (by omega), e17]
        refine ⟨by omega, by omega, by omega, fun y => absurd y (by omega), fun _ => ⟨by omega, by omega, fun h20 e20 => ?_⟩⟩
        have a20 : ∀ j, h20 56 7 j = if j = 257 * l + 18 + m - 1 then h 56 7 (257 * l + 18 + m) else hh 56 7 j := by
          intro j
          rw [e20, up_ji, f2 (257 * l + 18 + m) (by omega)]
        refine ih (m + 1) h20 (by omega) (by omega) (by omega) (fun k hk => by rw [e20, up_k hk]; exact f1 k hk) (fun j hj => ?_) (fun i i0 i1 => ?_)
        · rw [a20, if_neg (by omega)]; exact f2 j (by omega)
        · rw [a20]
          by_cases y : i = m - 1
          · rw [if_pos (by omega)]; congr 1; omega
          · rw [if_neg (by omega)]; exact f3 i i0 (by omega)
    refine ⟨_, loop _ (fun h23 f1 f2 f3 => ?_) _ 1 h14 rfl (by omega) (by omega) (fun _ _ => rfl) (fun j _ => by rw [k14 56 (by decide)]) (fun i i0 i1 => by omega)⟩
    refine ⟨by omega, by omega, fun h25 e25 => ⟨by omega, ?_⟩⟩
    have s23 : h23 56 7 (257 * l + 17) = σ 6 l 0 := by rw [f2 _ (by omega)]; exact e17
    have s25 : h25 56 7 (257 * l + 17) = σ 6 l 0 - 1 := by rw [e25, up_eq, s23]
    rw [s25]
    refine ⟨by omega, fun h28 e28 => ?_⟩
    have k28 : ∀ k, k ≠ 56 → h28 k = h14 k := fun k hk => by rw [e28, up_k hk, e25, up_k hk]; exact f1 k hk
    have row28 : RowR (h28 56 7) π (popA σ l) := by
      refine row.pop hp.1 (fun b b0 b1 => inv.qln b b0 b1) l0 l1 hq (fun j hj => ?_) ?_ (fun i i0 i1 => ?_)
      · rw [e28, up_j (by omega), e25, up_j (by omega)]; exact f2 j (by omega)
      · rw [e28, up_j (by omega)]; exact s25
      · rw [e28, up_j (by omega), e25, up_j (by omega)]; exact f3 i i0 i1
    have g28 : h28 12 7 28 = g := by rw [k28 12 (by decide)]; exact g14
    have z28 : h28 12 7 27 = σ 7 l 0 := by rw [k28 12 (by decide)]; exact z14
    have x13 : h28 56 7 (257 * l + 13) = σ 2 l 0 := by rw [(row28.2.2 l l0 l1).1.2.1, popA_k (by decide) (by decide)]
    rw [g28, z28, x13]
    refine ⟨by omega, by omega, fun t32 ht => ⟨by omega, fun h34 e34 => ?_⟩⟩
    have et : t32 = g * σ 7 l 0 := by
      rcases hg.1 with w | w
      · rw [ht.1 w, w, Int.zero_mul]
      · rw [ht.2 (by omega), w, Int.one_mul]
    have t0 : 0 ≤ t32 := by rw [et]; rcases hg.1 with w | w <;> rw [w] <;> omega
    have k34 : ∀ k, k ≠ 56 → h34 k = h14 k := fun k hk => by rw [e34, up_k hk]; exact k28 k hk
    have q6 : ∀ b, 0 ≤ b → b < π 0 0 → 0 ≤ popA σ l 6 b 0 ∧ popA σ l 6 b 0 ≤ 20 := by
      intro b b0 b1
      by_cases y : b = l
      · subst y; rw [popA_6]; omega
      · rw [popA_6o y]; exact inv.qln b b0 b1
    have row34 : RowR (h34 56 7) π (up (popA σ l) 2 l 0 (popA σ l 2 l 0 + t32)) := by
      refine row28.gra hp.1 q6 l0 l1 t0 (fun j => ?_)
      rw [e34, up_ji, popA_k (by decide) (by decide)]
    rw [popA_k (k := 2) (by decide) (by decide), et] at row34
    have u8 : ∀ k, 8 ≤ k → up (popA σ l) 2 l 0 (σ 2 l 0 + g * σ 7 l 0) k = σ k := fun k hk => by rw [up_k (by omega), popA_k (by omega) (by omega)]
    have pr34 : PlanR h34 π := pr.congr (fun k k1 k2 => by rw [k34 k (by omega), k14 k (by omega)])
    have rl : rc l = l := by unfold rc; rw [if_neg (by omega)]
    have cl := send_climb_r (l := l) (τ0 := up (popA σ l) 2 l 0 (σ 2 l 0 + g * σ 7 l 0)) (h0 := h34) (Ko := fun h47 => ∀ h48 : HP, h48 = up h47 56 7 3085 (h47 12 7 27) → ∀ h49 : HP, h49 = up h48 56 7 3086 ((h48 56 7 3086) + 1) → (-2147483648 ≤ h49 12 7 28 ∧ h49 12 7 28 < 2147483648) ∧ ∀ t51 : Int, ((h49 12 7 28 = 0 → t51 = 0) ∧ (¬ h49 12 7 28 = 0 → t51 = 1)) → ∀ h53 : HP, h53 = up h49 56 7 3087 ((h49 56 7 3087) + t51) → ∀ h54 : HP, h54 = up h53 56 7 3089 l → P h54) hp inv (z := σ 7 l 0) (by omega) pr34 (by rw [k34 12 (by decide)]; exact z14) ?_ 12 l h34 _ (Or.inr ⟨l0, l1, by omega⟩) (fun _ _ => rfl) row34 u8 (fun b b0 b1 hb => by rw [up_k (by decide), popA_k (by decide) (by decide)]) (fun b hb => by have := inv.2.2.2.2.2.2.2.1 b hb; rw [up_k (by decide), popA_k (by decide) (by decide)]; omega) (fun b b0 b1 => by rw [up_k (by decide)]; exact q6 b b0 b1) rfl
    · rw [rl] at cl; exact ⟨_, cl⟩
    · intro h47 τ f47 row47 eτ h48 e48 h49 e49
      have k47 : ∀ k, k ≠ 56 → h47 k = h14 k := fun k hk => by rw [f47 k hk]; exact k34 k hk
      have g49 : h49 12 7 28 = g := by rw [e49, up_k (by decide), e48, up_k (by decide), k47 12 (by decide)]; exact g14
      have z47 : h47 12 7 27 = σ 7 l 0 := by rw [k47 12 (by decide)]; exact z14
      have cs := climbS_all (z := σ 7 l 0) hp.1 13 (τ := up (popA σ l) 2 l 0 (σ 2 l 0 + g * σ 7 l 0)) (a := l) (Or.inr ⟨l0, l1, by omega⟩)
      have t0k : ∀ i, τ 0 i 0 = σ 0 i 0 := fun i => by rw [eτ, cs.1 0 (by decide) (by decide) (by decide), up_k (by decide), popA_k (by decide) (by decide)]
      have t6 : τ 6 = popA σ l 6 := by rw [eτ, cs.1 6 (by decide) (by decide) (by decide), up_k (by decide)]
      have q6' : ∀ b, 0 ≤ b → b < π 0 0 → 0 ≤ τ 6 b 0 ∧ τ 6 b 0 ≤ 20 := fun b b0 b1 => by rw [t6]; exact q6 b b0 b1
      have row48 : RowR (h48 56 7) π (up τ 0 1 0 (σ 7 l 0)) := row47.num hp.1 q6' (i := 1) (by omega) (by omega) (fun j => by rw [e48, up_ji, z47]; rfl)
      have x86 : h48 56 7 3086 = σ 0 2 0 := by rw [row48.1.2.2.1, up_i (by decide), t0k]
      have row49 : RowR (h49 56 7) π (up (up τ 0 1 0 (σ 7 l 0)) 0 2 0 (σ 0 2 0 + 1)) := row48.num hp.1 (fun b b0 b1 => by rw [up_k (by decide)]; exact q6' b b0 b1) (i := 2) (by omega) (by omega) (fun j => by rw [e49, up_ji, x86]; rfl)
      have x87 : h49 56 7 3087 = σ 0 3 0 := by rw [row49.1.2.2.2.1, up_i (by decide), up_i (by decide), t0k]
      rw [g49]
      refine ⟨by omega, fun t51 h51 h53 e53 h54 e54 => ?_⟩
      have e51 : t51 = g := by
        rcases hg.1 with w | w
        · rw [h51.1 w, w]
        · rw [h51.2 (by omega), w]
      have row53 : RowR (h53 56 7) π (up (up (up τ 0 1 0 (σ 7 l 0)) 0 2 0 (σ 0 2 0 + 1)) 0 3 0 (σ 0 3 0 + g)) := row49.num hp.1 (fun b b0 b1 => by rw [up_k (by decide), up_k (by decide)]; exact q6' b b0 b1) (i := 3) (by omega) (by omega) (fun j => by rw [e53, up_ji, x87, e51]; rfl)
      have row54 : RowR (h54 56 7) π (up (up (up (up τ 0 1 0 (σ 7 l 0)) 0 2 0 (σ 0 2 0 + 1)) 0 3 0 (σ 0 3 0 + g)) 0 4 0 l) := row53.num hp.1 (fun b b0 b1 => by rw [up_k (by decide), up_k (by decide), up_k (by decide)]; exact q6' b b0 b1) (i := 4) (by omega) (by omega) (fun j => by rw [e54, up_ji]; rfl)
      have es : up (up (up (up τ 0 1 0 (σ 7 l 0)) 0 2 0 (σ 0 2 0 + 1)) 0 3 0 (σ 0 3 0 + g)) 0 4 0 l = sendA π σ l g := by
        have cl2 : climbS π (σ 7 l 0) 13 (up (up (popA σ l) 2 l 0 (σ 2 l 0 + g * σ 7 l 0)) 0 3 0 (σ 0 3 0 + g)) l = up τ 0 3 0 (σ 0 3 0 + g) := by rw [eτ]; exact climbS_num _ _ _
        unfold sendA
        rw [cl2]
        funext k i j
        by_cases k0 : k = 0
        · subst k0
          simp only [up, upr]
          by_cases i1 : i = 1
          · subst i1; simp
          · by_cases i2 : i = 2
            · subst i2; simp
            · by_cases i3 : i = 3
              · subst i3; simp
              · by_cases i4 : i = 4
                · subst i4; simp
                · simp [i1, i2, i3, i4]
        · simp [up, upr, k0]
      rw [es] at row54
      have f54 : ∀ k, k ≠ 56 → h54 k = h14 k := fun k hk => by rw [e54, up_k hk, e53, up_k hk, e49, up_k hk, e48, up_k hk]; exact k47 k hk
      refine k h54 ⟨fun k k1 k2 => by rw [f54 k k2, k14 k k1], fun j j1 j2 j3 => by rw [f54 12 (by decide)]; exact j14 j j1 j2⟩ (by rw [f54 12 (by decide)]; exact c14) (by rw [f54 12 (by decide)]; exact g14) (fun _ => by rw [f54 12 (by decide)]; exact z14) ?_
      rw [if_neg c]; exact row54
  · refine k h10 ⟨fun k k1 k2 => k10 k k1, fun j j1 j2 j3 => by rw [e10, up_j j1]⟩ (by rw [e10, up_eq]) (by rw [e10, up_j (by decide)]; exact hg.2) (fun y => absurd c y) ?_
    rw [if_pos c, k10 56 (by decide)]; exact row
