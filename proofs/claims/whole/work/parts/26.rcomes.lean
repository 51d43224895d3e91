/-! the reference: the least and the greatest virtual time; waking; a packet comes -/
theorem hasCurve_r {h : HP} {π : PL} {K c k : Int} {σ : ST} {P : Int → HP → Prop} (x : RX h π K σ) (c0 : 0 ≤ c) (c1 : c < π 0 0) (hk : 0 ≤ k ∧ k ≤ 2) (kk : ∀ y, (y = 0 ∨ y = 1) → (y = 1 ↔ 0 < σ 11 (3 * c + k) 0) → P y h) : wX12_hasCurve 7 c k h P := by
  have n12 := x.1.1.2.1
  have e := ((x.2.2.2.2.2 c c0 c1).2.2 k hk.1 (by omega)).1
  unfold wX12_hasCurve wX12_curveAt
  dsimp only
  rw [e]
  refine ⟨by omega, by split <;> omega, fun t5 h5 => ?_⟩
  by_cases z : 0 < σ 11 (3 * c + k) 0
  · rw [if_pos z] at h5
    have := h5.2 rfl
    subst this
    exact ⟨Or.inr rfl, kk 1 (Or.inr rfl) ⟨fun _ => z, fun _ => rfl⟩⟩
  · rw [if_neg z] at h5
    have := h5.1 (by decide)
    subst this
    exact ⟨Or.inl rfl, kk 0 (Or.inl rfl) ⟨fun q => by omega, fun q => absurd q z⟩⟩
theorem tellV_r {h : HP} {π : PL} {K i b : Int} {σ : ST} {P : Int → HP → Prop} (x : RX h π K σ) (hi : (0 ≤ i ∧ i < π 0 0) ∨ i = 12) (hb : -1 ≤ b ∧ b < 12) (k : ∀ y h', (y = 0 ∨ y = 1) → (y = 1 ↔ grtV π σ i b (π 0 0).toNat ≠ -1) → FrV h h' → h' 56 = h 56 → (∀ k, k ≠ 12 → h' k = h k) → (y = 1 → h' 12 7 23 = lstV π σ i b (π 0 0).toNat ∧ h' 12 7 24 = grtV π σ i b (π 0 0).toNat) → P y h') : wX12_tellVirtuals 7 (rc i) b h P := by
  obtain ⟨hp, pr, inv, row⟩ := id x
  have n12 := hp.1.2.1
  have n0 := hp.1.1
  have cr := inv.2.2.1
  have tr := inv.1
  have rci : -1 ≤ rc i ∧ rc i < 12 := by unfold rc; split <;> omega
  unfold wX12_tellVirtuals
  have loop : ∀ (d : Nat) (m : Nat) (y : Int) (h' : HP), (π 0 0).toNat - m = d → m ≤ (π 0 0).toNat → (∀ k, k ≠ 12 → h' k = h k) → (∀ j, j ≠ 23 → j ≠ 24 → h' 12 7 j = h 12 7 j) → (y = 0 ∨ y = 1) → (y = 1 ↔ grtV π σ i b m ≠ -1) → (y = 1 → h' 12 7 23 = lstV π σ i b m ∧ h' 12 7 24 = grtV π σ i b m) →
      wX12_tellVirtuals_5 7 (rc i) b (fun l37 h38 => (l37 = 0 ∨ l37 = 1) ∧ P l37 h38) (d + 1) y m h' := by
    intro d
    induction d with
    | zero =>
      intro m y h' hd hm f1 f2 hy hq hv
      have em : m = (π 0 0).toNat := by omega
      subst em
      rw [wX12_tellVirtuals_5, f1 49 (by decide), pr.1.1]
      exact ⟨by omega, by omega, fun _ => ⟨hy, k y h' hy hq ⟨fun k' k1 _ _ _ => f1 k' k1, f2⟩ (f1 56 (by decide)) f1 hv⟩, fun z => absurd (by omega) z⟩
    | succ d ih =>
      intro m y h' hd hm f1 f2 hy hq hv
      have m1 : (m : Int) < π 0 0 := by omega
      have hd1 : (π 0 0).toNat - (m + 1) = d := by omega
      have hm1 : m + 1 ≤ (π 0 0).toNat := by omega
      have ep := pr.par (c := m) (by omega) m1
      have rq := rc_eq hp.1 (c := m) (i := i) (by omega) m1 hi
      have pk := par_ok hp.1 (a := m) (by omega) m1
      have rr : -1 ≤ rc (π 1 m) ∧ rc (π 1 m) < 12 := by unfold rc; split <;> omega
      have x' : RX h' π K σ := ⟨hp, pr.congr (fun k' k1 _ => f1 k' (by omega)), inv, by rw [f1 56 (by decide)]; exact row⟩
      have stay : ¬ (π 1 m = i ∧ (m : Int) ≠ b ∧ 0 < hel π σ m) → wX12_tellVirtuals_107 7 (rc i) b y m (fun y3 y4 hy => wX12_tellVirtuals_5 7 (rc i) b (fun l37 h38 => (l37 = 0 ∨ l37 = 1) ∧ P l37 h38) (d + 1) y3 y4 hy) h' := by
        intro hn
        obtain ⟨z1, z2⟩ := lstV_n hn
        unfold wX12_tellVirtuals_107
        exact ih (m + 1) y h' hd1 hm1 f1 f2 hy (by rw [z2]; exact hq) (by rw [z1, z2]; exact hv)
      rw [wX12_tellVirtuals_5, f1 49 (by decide), pr.1.1, f1 50 (by decide), ep]
      refine ⟨by omega, by omega, fun z => absurd z (by omega), fun _ => ⟨by omega, by omega, by omega, fun z => stay (fun u => z (rq.mpr u.1)), fun z => ⟨by omega, by omega, fun z2 => stay (fun u => u.2.1 z2), fun z2 => active_r x' (by omega) m1 (fun y2 hy2 hq2 => ⟨by omega, fun z3 => ?_, fun z3 => stay (fun u => by have := hq2.mpr u.2.2; omega)⟩)⟩⟩⟩
      have hyes : π 1 m = i ∧ (m : Int) ≠ b ∧ 0 < hel π σ m := ⟨rq.mp z, z2, hq2.mp (by omega)⟩
      obtain ⟨w1, w2⟩ := lstV_y hyes
      have v14 : h' 56 7 (257 * (m : Int) + 14) = σ 3 m 0 := by rw [f1 56 (by decide)]; exact (row.2.2 m (by omega) m1).1.2.2.1
      have vr := (inv.2.2.2.2.2.2.1 m (by omega) m1).2.1
      have g := grtV_rng inv i b m (by omega)
      rw [v14]
      refine ⟨by omega, ⟨by omega, fun u => ?_⟩, fun t19 h19 h21 e21 => ⟨⟨by omega, fun u => ?_⟩, fun t25 h25 h27 e27 => ?_⟩⟩
      · obtain ⟨a1, a2⟩ := hv (by omega)
        have := hq.mp (by omega)
        have := g.2.2 this
        rw [a1]; omega
      · obtain ⟨a1, a2⟩ := hv (by omega)
        have := hq.mp (by omega)
        have := g.2.2 this
        rw [e21, up_j (by decide), a2]; omega
      · have q21 : h21 12 7 24 = h' 12 7 24 := by rw [e21, up_j (by decide)]
        rw [q21] at h25
        have e19 : t19 = lstV π σ i b (m + 1) := by
          rw [w1]
          by_cases u : y = 0
          · have : grtV π σ i b m = -1 := by
              by_cases v : grtV π σ i b m = -1
              · exact v
              · have := hq.mpr v; omega
            rw [h19.1 u, g.2.1 this]; omega
          · rw [h19.2 u, (hv (by omega)).1]
        have e25 : t25 = grtV π σ i b (m + 1) := by
          rw [w2]
          by_cases u : y = 0
          · have : grtV π σ i b m = -1 := by
              by_cases v : grtV π σ i b m = -1
              · exact v
              · have := hq.mpr v; omega
            rw [h25.1 u, this]; omega
          · rw [h25.2 u, (hv (by omega)).2]
        unfold wX12_tellVirtuals_107
        refine ih (m + 1) 1 h27 hd1 hm1 (fun k' hk' => by rw [e27, up_k hk', e21, up_k hk', f1 k' hk']) (fun j j1 j2 => by rw [e27, up_j j2, e21, up_j j1, f2 j j1 j2]) (Or.inr rfl) ⟨fun _ => ?_, fun _ => rfl⟩ (fun _ => ⟨?_, ?_⟩)
        · rw [w2]
          have g1 := g.1.1
          clear h19 h25 hq hy hq2 hy2 hv stay ih x' x
          omega
        · rw [e27, up_j (by decide), e21, up_eq, e19]
        · rw [e27, up_eq, e25]
  exact ⟨_, loop _ 0 0 h rfl (by omega) (fun _ _ => rfl) (fun _ _ _ => rfl) (Or.inl rfl) ⟨fun q => by omega, fun q => absurd rfl q⟩ (fun q => by omega)⟩
theorem share_top {π : PL} {K : Int} {σ : ST} (inv : AInv π K σ) {r : Int → Int} {c : Int} (c0 : 0 ≤ c) (c1 : c < π 0 0) (q : CurveR r c 1 σ) : ∀ i, 0 ≤ i → i < r (257 * c + 38 + 73 * 1) → r (257 * c + 38 + 73 * 1 + 2 + 2 * i) = σ 1 c 0 → r (257 * c + 38 + 73 * 1 + 1 + 2 * i) ≤ σ 3 c 0 := by
  intro i i0 i1 e
  have hx := q.2.2.2.2.2.2.1 (σ 1 c 0) (by rw [cur_1]; exact Int.le_refl _)
  have this : ltF σ (3 * c + 1) (r (257 * c + 38 + 73 * 1 + 1 + 2 * i)) (r (257 * c + 38 + 73 * 1 + 2 + 2 * i)) (σ 1 c 0) ≤ σ 12 (3 * c + 1) (σ 1 c 0) := hx.2.1 i i0 i1
  have t : ltF σ (3 * c + 1) (r (257 * c + 38 + 73 * 1 + 1 + 2 * i)) (r (257 * c + 38 + 73 * 1 + 2 + 2 * i)) (σ 1 c 0) = r (257 * c + 38 + 73 * 1 + 1 + 2 * i) := by unfold ltF; rw [reachA_le (by omega)]
  rw [t] at this
  have := (inv.2.2.2.2.2.2.1 c c0 c1).2.2.2.2.2.2.2.2
  omega
/-- lay for a class whose row stands -/
theorem layX_r {h : HP} {π : PL} {K c k x y : Int} {σ : ST} {P : HP → Prop} (X : RX h π K σ) (c0 : 0 ≤ c) (c1 : c < π 0 0) (hk : 0 ≤ k ∧ k ≤ 2) (hm : 0 < σ 11 (3 * c + k) 0) (hx : 0 ≤ x ∧ x ≤ xB) (hy : y = if k = 0 then σ 2 c 0 else σ 1 c 0)
    (h1 : k = 1 → x = σ 3 c 0) (ht : k ≠ 1 → x = σ 0 0 0) (kk : ∀ h', FrV h h' → Fr5659 h h' → RX h' π K (layA σ (3 * c + k) x y) → P h') : wX12_lay 7 c k x h P := by
  obtain ⟨hp, pr, inv, row⟩ := id X
  have n12 := hp.1.2.1
  have q := (row.2.2 c c0 c1).2.2 k hk.1 (by omega)
  have o := inv.2.2.2.2.2.2.2.2.2 (3 * c + k) (by omega) (by omega)
  have hcur : cur σ (3 * c + k) = y := by
    rw [hy]
    unfold cur
    by_cases z : k = 0
    · rw [if_pos (by omega), if_pos z]; congr 1; omega
    · rw [if_neg (by omega), if_neg z]; congr 1; omega
  have cr := inv.cur_rng (s := 3 * c + k) (by omega) (by omega)
  have d := (row.2.2 c c0 c1).1
  have li : AInv π K (layA σ (3 * c + k) x y) := layA_inv inv (by omega) (by omega) hx.1 hcur (fun z => by rw [h1 (by omega), show (3 * c + k) / 3 = c by omega]; exact Int.le_refl _) (fun z => by rw [ht (by omega)]; exact Int.le_refl _)
  refine lay_r (π := π) (σ := σ) (by omega) hk q o hm hx hcur (by omega) ?_ ?_ (fun z => by rw [ht (by omega)]; exact Int.le_refl _) (fun h' f e' c' => kk h' (FrV.of5659 f) f (X.fv (FrV.of5659 f) li (row.lay hp.1 (fun b b0 b1 => inv.qln b b0 b1) c0 c1 hk e' c')))
  · rw [hy]
    by_cases z : k = 0
    · rw [if_pos z, if_pos z]; exact d.2.1
    · rw [if_neg z, if_neg z]; exact d.1
  · intro i i0 i1 e
    by_cases z : k = 1
    · subst z
      rw [h1 rfl]
      rw [if_neg (by decide)] at hy
      exact share_top inv c0 c1 q i i0 i1 (by rw [e, hy])
    · rw [ht z]
      exact q.2.2.2.2.2.2.2.2 (by omega) i i0 i1
theorem wake_r {h : HP} {π : PL} {K c : Int} {σ : ST} {P : HP → Prop} (x : RX h π K σ) (c0 : 0 ≤ c) (c1 : c < π 0 0) (k : ∀ h', FrV h h' → h' 60 = h 60 → RX h' π K (wakeA π σ c) → P h') : wX12_wake 7 c h P := by
  obtain ⟨hp, pr, inv, row⟩ := id x
  have n12 := hp.1.2.1
  have pp := par_ok hp.1 c0 c1
  have ep := pr.par c0 c1
  have s := startA_rng hp.1 inv c0 c1
  have cr := inv.2.2.1
  have tr := inv.1
  have hxB : xB = 18000000 := rfl
  have rr : -1 ≤ rc (π 1 c) ∧ rc (π 1 c) < 12 := by unfold rc; split <;> omega
  have g := grtV_rng inv (π 1 c) c (π 0 0).toNat (by omega)
  have vr := (inv.2.2.2.2.2.2.1 c c0 c1).2.1
  have shr := (inv.2.2.2.2.2.2.1 c c0 c1).2.2.2.2.2.2.1
  unfold wX12_wake
  rw [ep]
  refine ⟨by omega, tellV_r x (by omega) (by omega) (fun y h2 hy hq f2 e56 e12 hv => ?_)⟩
  rw [e56]
  have d := (row.2.2 c c0 c1).1
  have pk : (rc (π 1 c) = -1 → h 56 7 3088 = σ 4 (π 1 c) 0) ∧ (rc (π 1 c) ≠ -1 → h 56 7 (257 * rc (π 1 c) + 15) = σ 4 (π 1 c) 0) := by
    refine ⟨fun z => ?_, fun z => ?_⟩
    · have : π 1 c = 12 := by unfold rc at z; split at z <;> omega
      rw [this]; exact row.1.2.2.2.2.1
    · have z2 : rc (π 1 c) = π 1 c ∧ π 1 c ≠ 12 := by
        unfold rc at z ⊢
        split at z
        · omega
        · rename_i w; rw [if_neg w]; exact ⟨rfl, w⟩
      rw [z2.1]
      exact (row.2.2 (π 1 c) (by omega) (by omega)).1.2.2.2.1
  have pkr := inv.2.2.2.2.2.2.2.1 (π 1 c) (by omega)
  refine ⟨⟨by omega, fun z => ⟨by omega, fun _ => by omega⟩, fun z => ?_⟩, fun t8 h8 => ?_⟩
  · obtain ⟨a1, a2⟩ := hv (by omega)
    have := g.2.2 (hq.mp (by omega))
    rw [a1, a2]; omega
  · have e8 : max (σ 3 c 0) t8 = startA π σ c := by
      unfold startA
      by_cases z : y = 0
      · have gz : grtV π σ (π 1 c) c (π 0 0).toNat = -1 := by
          by_cases v : grtV π σ (π 1 c) c (π 0 0).toNat = -1
          · exact v
          · have := hq.mpr v; omega
        rw [if_pos gz]
        have h9 := h8.1 z
        by_cases w : rc (π 1 c) = -1
        · rw [h9.2 w, pk.1 w]
        · rw [h9.1 w, pk.2 w]
      · rw [if_neg (hq.mp (by omega)), h8.2 z, (hv (by omega)).1, (hv (by omega)).2]
    have t8r : -2147483648 ≤ t8 ∧ t8 < 2147483648 := by
      by_cases z : y = 0
      · have h9 := h8.1 z
        by_cases w : rc (π 1 c) = -1
        · rw [h9.2 w, pk.1 w]; omega
        · rw [h9.1 w, pk.2 w]; omega
      · have := g.2.2 (hq.mp (by omega))
        rw [h8.2 z, (hv (by omega)).1, (hv (by omega)).2]; omega
    rw [d.2.2.1, e8]
    refine ⟨by omega, by omega, t8r, ?_⟩
    have x2 : RX h2 π K σ := x.fv f2 inv (by rw [e56]; exact row)
    refine putV_r x2 c0 c1 (by omega) (fun h13 f13 g13 r13 => ?_)
    have i13 := virA_inv inv (c := c) (v := startA π σ c) s.1 s.2
    have x13 : RX h13 π K (virA π σ c (startA π σ c)) := x2.fv f13 i13 r13
    have v0 : virA π σ c (startA π σ c) 0 = σ 0 := virA_k (by decide) (by decide)
    have v1 : virA π σ c (startA π σ c) 1 = σ 1 := virA_k (by decide) (by decide)
    have v2 : virA π σ c (startA π σ c) 2 = σ 2 := virA_k (by decide) (by decide)
    have v11 : virA π σ c (startA π σ c) 11 = σ 11 := virA_k (by decide) (by decide)
    have y13 : h13 56 7 (257 * c + 14) = startA π σ c := by rw [(r13.2.2 c c0 c1).1.2.2.1, virA_3]
    rw [y13]
    refine ⟨by omega, layX_r (k := 1) (y := σ 1 c 0) x13 c0 c1 (by omega) (by rw [v11]; exact shr) (by omega) (by rw [if_neg (by decide), v1]) (fun _ => by rw [virA_3]) (fun z => absurd rfl z) (fun h15 f15 g15 x15 => ?_)⟩
    have w0 : layA (virA π σ c (startA π σ c)) (3 * c + 1) (startA π σ c) (σ 1 c 0) 0 = σ 0 := by rw [layA_k (by decide) (by decide), v0]
    have w1 : layA (virA π σ c (startA π σ c)) (3 * c + 1) (startA π σ c) (σ 1 c 0) 1 = σ 1 := by rw [layA_k (by decide) (by decide), v1]
    have w2 : layA (virA π σ c (startA π σ c)) (3 * c + 1) (startA π σ c) (σ 1 c 0) 2 = σ 2 := by rw [layA_k (by decide) (by decide), v2]
    have w11 : layA (virA π σ c (startA π σ c)) (3 * c + 1) (startA π σ c) (σ 1 c 0) 11 = σ 11 := by rw [layA_k (by decide) (by decide), v11]
    have c60 : h15 60 = h 60 := by rw [g15 60 (by decide) (by decide), g13 60 (by decide), e12 60 (by decide)]
    -- the last: grant
    have last : ∀ h16, FrV h h16 → h16 60 = h 60 → RX h16 π K (layA (layA (virA π σ c (startA π σ c)) (3 * c + 1) (startA π σ c) (σ 1 c 0)) (3 * c + 2) (σ 0 0 0) (σ 1 c 0)) → wX12_wake_124 7 c P h16 := by
      intro h16 f16 e60 x16
      have u0 : layA (layA (virA π σ c (startA π σ c)) (3 * c + 1) (startA π σ c) (σ 1 c 0)) (3 * c + 2) (σ 0 0 0) (σ 1 c 0) 0 = σ 0 := by rw [layA_k (by decide) (by decide), w0]
      have u2 : layA (layA (virA π σ c (startA π σ c)) (3 * c + 1) (startA π σ c) (σ 1 c 0)) (3 * c + 2) (σ 0 0 0) (σ 1 c 0) 2 = σ 2 := by rw [layA_k (by decide) (by decide), w2]
      unfold wX12_wake_124
      refine hasCurve_r (k := 0) x16 c0 c1 (by omega) (fun y2 hy2 hq2 => ⟨by omega, fun z => ?_, fun z => ?_⟩)
      · refine k h16 f16 e60 ?_
        have e : wakeA π σ c = layA (layA (virA π σ c (startA π σ c)) (3 * c + 1) (startA π σ c) (σ 1 c 0)) (3 * c + 2) (σ 0 0 0) (σ 1 c 0) := by
          have w : ¬ 0 < layA (layA (virA π σ c (startA π σ c)) (3 * c + 1) (startA π σ c) (σ 1 c 0)) (3 * c + 2) (σ 0 0 0) (σ 1 c 0) 11 (3 * c + 0) 0 := fun w => by have := hq2.mpr w; omega
          rw [show (3 * c + 0 : Int) = 3 * c by omega] at w
          show layA (layA (layA (virA π σ c (startA π σ c)) (3 * c + 1) (startA π σ c) (σ 1 c 0)) (3 * c + 2) (σ 0 0 0) (σ 1 c 0)) (3 * c) (σ 0 0 0) (σ 2 c 0) = _
          generalize layA (layA (virA π σ c (startA π σ c)) (3 * c + 1) (startA π σ c) (σ 1 c 0)) (3 * c + 2) (σ 0 0 0) (σ 1 c 0) = τ at w ⊢
          unfold layA
          rw [if_pos (by omega)]
        rw [e]
        exact x16
      · have tm16 : h16 56 7 3084 = σ 0 0 0 := by rw [x16.2.2.2.1.1, u0]
        rw [tm16]
        refine layX_r (k := 0) (y := σ 2 c 0) x16 c0 c1 (by omega) (hq2.mp (by omega)) (by omega) (by rw [if_pos rfl, u2]) (fun z2 => by omega) (fun _ => by rw [u0]) (fun h24 f24 g24 x24 => ?_)
        refine k h24 (f16.tr f24) (by rw [g24 60 (by decide) (by decide)]; exact e60) ?_
        rw [show (3 * c + 0 : Int) = 3 * c by omega] at x24
        exact x24
    refine hasCurve_r (k := 2) x15 c0 c1 (by omega) (fun y2 hy2 hq2 => ⟨by omega, fun z => ?_, fun z => ?_⟩)
    · refine last h15 ((f2.tr f13).tr f15) c60 ?_
      have e : layA (layA (virA π σ c (startA π σ c)) (3 * c + 1) (startA π σ c) (σ 1 c 0)) (3 * c + 2) (σ 0 0 0) (σ 1 c 0) = layA (virA π σ c (startA π σ c)) (3 * c + 1) (startA π σ c) (σ 1 c 0) := by
        have w : ¬ 0 < layA (virA π σ c (startA π σ c)) (3 * c + 1) (startA π σ c) (σ 1 c 0) 11 (3 * c + 2) 0 := fun w => by have := hq2.mpr w; omega
        generalize layA (virA π σ c (startA π σ c)) (3 * c + 1) (startA π σ c) (σ 1 c 0) = τ at w ⊢
        unfold layA
        rw [if_pos (by omega)]
      rw [e]
      exact x15
    · have tm15 : h15 56 7 3084 = σ 0 0 0 := by rw [x15.2.2.2.1.1, w0]
      rw [tm15]
      refine layX_r (k := 2) (y := σ 1 c 0) x15 c0 c1 (by omega) (hq2.mp (by omega)) (by omega) (by rw [if_neg (by decide), w1]) (fun z2 => by omega) (fun _ => by rw [w0]) (fun h24 f24 g24 x24 => ?_)
      exact last h24 (((f2.tr f13).tr f15).tr f24) (by rw [g24 60 (by decide) (by decide)]; exact c60) x24
