/-! the reference: eligible, deadline, fits, who is chosen -/
theorem elig_r {h : HP} {π : PL} {K c : Int} {σ : ST} {P : Int → HP → Prop} (x : RX h π K σ) (c0 : 0 ≤ c) (c1 : c < π 0 0) (hm : 0 < σ 11 (3 * c) 0) (k : P (eligA σ c) h) : wX12_eligible 7 c h P := by
  obtain ⟨hp, pr, inv, row⟩ := id x
  have n12 := hp.1.2.1
  have q := (row.2.2 c c0 c1).2.2 0 (by omega) (by omega)
  have o := inv.2.2.2.2.2.2.2.2.2 (3 * c) (by omega) (by omega)
  have w := o.1.2 hm
  unfold wellC at w
  have b1 := (inv.2.2.2.2.2.2.1 c c0 c1).1
  have tr := inv.1
  have br := inv.2.1
  have gr := grant_rng inv c0 c1 (n := σ 2 c 0) (Int.le_refl _) (by omega)
  have e3 : (3 * c + 0 : Int) = 3 * c := by omega
  obtain ⟨f1, f2, f3⟩ := q.2.1 (by rw [e3]; exact hm)
  rw [e3] at f1 f2 f3
  have e13 := (row.2.2 c c0 c1).1.2.1
  unfold wX12_eligible wX12_curveAt
  dsimp only
  rw [f1, f3, e13]
  refine ⟨by omega, by omega, by omega, by omega, by omega, ?_⟩
  refine reachAll_E (π := π) (σ := σ) (k := 0) (by omega) (by omega) q (by rw [e3]; exact o) (by rw [e3]; exact hm) (by rw [e3]) ?_ ?_ ?_ ?_
  · rw [e3, cur_0]; omega
  · rw [e3, cur_0]; omega
  · rw [e3]; omega
  · rw [e3]; exact k
theorem ddl_r {h : HP} {π : PL} {K c : Int} {σ : ST} {P : Int → HP → Prop} (x : RX h π K σ) (c0 : 0 ≤ c) (c1 : c < π 0 0) (hm : 0 < σ 11 (3 * c) 0) (hq : 0 < σ 6 c 0) (k : P (ddlA σ c) h) : wX12_deadline 7 c h P := by
  obtain ⟨hp, pr, inv, row⟩ := id x
  have n12 := hp.1.2.1
  have q := (row.2.2 c c0 c1).2.2 0 (by omega) (by omega)
  have o := inv.2.2.2.2.2.2.2.2.2 (3 * c) (by omega) (by omega)
  have b := inv.2.2.2.2.2.2.1 c c0 c1
  have b1 := b.1
  have bz := b.2.2.2.2.2.1 0 (Int.le_refl _) hq
  have tr := inv.1
  have br := inv.2.1
  have gr := grant_rng inv c0 c1 (n := σ 2 c 0 + σ 7 c 0) (by omega) (by omega)
  have e3 : (3 * c + 0 : Int) = 3 * c := by omega
  have e13 := (row.2.2 c c0 c1).1.2.1
  have e18 := (row.2.2 c c0 c1).2.1 0 (Int.le_refl _) hq
  rw [show 257 * c + 18 + 0 = 257 * c + 18 by omega] at e18
  unfold wX12_deadline
  rw [e13, e18]
  refine ⟨by omega, by omega, reachAll_F (π := π) (σ := σ) (k := 0) (by omega) (by omega) q (by rw [e3]; exact o) (by rw [e3]; exact hm) ?_ ?_ ?_ ?_⟩
  · rw [e3, cur_0]; omega
  · rw [e3, cur_0]; omega
  · rw [e3]; omega
  · rw [e3]; exact k
theorem lstK_y {π : PL} {σ : ST} {g : Int → Int} {c : Int} {m : Nat} (h : π 1 m = c ∧ 0 < hel π σ m) : lstK π σ g c (m + 1) = if lstK π σ g c m = -1 then g m else min (lstK π σ g c m) (g m) := by show (if _ then _ else _) = _; rw [if_pos h]
theorem lstK_n {π : PL} {σ : ST} {g : Int → Int} {c : Int} {m : Nat} (h : ¬ (π 1 m = c ∧ 0 < hel π σ m)) : lstK π σ g c (m + 1) = lstK π σ g c m := by show (if _ then _ else _) = _; rw [if_neg h]
theorem fit_r {h : HP} {π : PL} {K : Int} {σ : ST} (x : RX h π K σ) : ∀ (r : Nat) {c : Int} {P : Int → HP → Prop}, 0 ≤ c → c < π 0 0 → π 0 0 - c ≤ r → P (fitA π σ c) h → wX12_fit r 7 c h P := by
  obtain ⟨hp, pr, inv, row⟩ := id x
  have n12 := hp.1.2.1
  have fr : ∀ c, 0 ≤ c → c < π 0 0 → 0 ≤ fitA π σ c ∧ fitA π σ c ≤ 310000 := fun c c0 c1 => fitA_rng hp.1 inv 12 c c0 c1 (by omega)
  intro r
  induction r with
  | zero => intro c P c0 c1 h2; omega
  | succ r ih =>
    intro c P c0 c1 hr k
    show wX12_fit_b (wX12_fit r) 7 c h P
    have o := ownF_rng inv c0 c1
    have lr : ∀ m : Nat, (m : Int) ≤ π 0 0 → -1 ≤ lstK π σ (fitA π σ) c m ∧ lstK π σ (fitA π σ) c m ≤ 310000 := by
      intro m hm
      rcases lstK_spec (π := π) (σ := σ) (g := fitA π σ) (c := c) m (fun k hk _ _ => (fr k (by omega) (by omega)).1) with ⟨q1, -⟩ | ⟨q0, ⟨k, k1, k2, k3, k4⟩, -⟩
      · omega
      · have := fr k (by omega) (by omega); omega
    have loop : ∀ (v : Int), v = ownF σ c → ∀ (d : Nat) (m : Nat), (π 0 0).toNat - m = d → m ≤ (π 0 0).toNat → c < m → wX12_fit_40 (wX12_fit r) 7 c v (fun l28 h29 => (-2147483648 ≤ v ∧ v < 2147483648) ∧ (-2147483648 ≤ l28 ∧ l28 < 2147483648) ∧ P (max v l28) h29) (d + 1) (lstK π σ (fitA π σ) c m) m h := by
      intro v hv d
      induction d with
      | zero =>
        intro m hd hm hcm
        have em : m = (π 0 0).toNat := by omega
        subst em
        have lrm := lr (π 0 0).toNat (by omega)
        rw [wX12_fit_40, pr.1.1]
        refine ⟨by omega, by omega, fun _ => ⟨by omega, by omega, ?_⟩, fun z => absurd (by omega) z⟩
        rw [hv, ← fitA_eq hp.1 c0 c1]
        exact k
      | succ d ihd =>
        intro m hd hm hcm
        have m1 : (m : Int) < π 0 0 := by omega
        have hd1 : (π 0 0).toNat - (m + 1) = d := by omega
        have hm1 : m + 1 ≤ (π 0 0).toNat := by omega
        have hn := ihd (m + 1) hd1 hm1 (by omega)
        have ep := pr.par (c := m) (by omega) m1
        have pk := par_ok hp.1 (a := m) (by omega) m1
        have rq := rc_eq hp.1 (c := m) (i := c) (by omega) m1 (Or.inl ⟨c0, c1⟩)
        have rcc : rc c = c := by unfold rc; rw [if_neg (by omega)]
        rw [rcc] at rq
        have rr : -1 ≤ rc (π 1 m) ∧ rc (π 1 m) < 12 := by unfold rc; split <;> omega
        have lrm := lr m (by omega)
        have fm := fr m (by omega) m1
        rw [wX12_fit_40, pr.1.1, ep]
        refine ⟨by omega, by omega, fun z => absurd z (by omega), fun _ => ⟨by omega, by omega, by omega, fun z => ?_, fun z => active_r x (by omega) m1 (fun y hy hq => ⟨by omega, fun z2 => ?_, fun z2 => ?_⟩)⟩⟩
        · unfold wX12_fit_99
          rw [lstK_n (fun u => z (rq.mpr u.1))] at hn
          exact hn
        · refine ih (c := m) (by omega) m1 (by omega) ⟨⟨by omega, fun _ => ⟨by omega, by omega⟩⟩, fun t21 h21 => ?_⟩
          have e21 : t21 = lstK π σ (fitA π σ) c (m + 1) := by
            rw [lstK_y ⟨rq.mp z, hq.mp (by omega)⟩]
            by_cases u : lstK π σ (fitA π σ) c m = -1
            · rw [if_pos u]; exact h21.2 u
            · rw [if_neg u]; exact h21.1 u
          unfold wX12_fit_99
          rw [e21]
          exact hn
        · unfold wX12_fit_99
          rw [lstK_n (fun u => by have := hq.mpr u.2; omega)] at hn
          exact hn
    have l0 : ∀ m : Nat, (m : Int) ≤ c + 1 → lstK π σ (fitA π σ) c m = -1 := by
      intro m
      induction m with
      | zero => intro _; rfl
      | succ m ihm =>
        intro hm
        rw [lstK_n (fun u => by
          have := hp.1.2.2 m (by omega) (by omega)
          omega)]
        exact ihm (by omega)
    have go : ∀ v, v = ownF σ c → wX12_fit_32 (wX12_fit r) 7 c v P h := by
      intro v hv
      unfold wX12_fit_32
      have := loop v hv ((π 0 0).toNat - (c.toNat + 1)) (c.toNat + 1) rfl (by omega) (by omega)
      rw [l0 _ (by omega), show ((c.toNat + 1 : Nat) : Int) = c + 1 by omega] at this
      exact ⟨_, this⟩
    unfold wX12_fit_b
    refine hasCurve_r (k := 2) x c0 c1 (by omega) (fun y hy hq => ⟨by omega, fun z => go 0 ?_, fun z => ⟨by omega, ?_⟩⟩)
    · unfold ownF; rw [if_neg (fun u => by have := hq.mpr u; omega)]
    · have hm : 0 < σ 11 (3 * c + 2) 0 := hq.mp (by omega)
      have q := (row.2.2 c c0 c1).2.2 2 (by omega) (by omega)
      have os := inv.2.2.2.2.2.2.2.2.2 (3 * c + 2) (by omega) (by omega)
      have b1 := (inv.2.2.2.2.2.2.1 c c0 c1).1
      have tr := inv.1
      have br := inv.2.1
      have ur := upper_rng inv c0 c1 (n := σ 1 c 0) (Int.le_refl _) (by omega)
      rw [(row.2.2 c c0 c1).1.1]
      refine reachAll_F (π := π) (σ := σ) (k := 2) (by omega) (by omega) q os hm (by rw [cur_2]; omega) (by rw [cur_2]; omega) (by omega) (go _ ?_)
      unfold ownF; rw [if_pos hm]
theorem byGrant_r {h : HP} {π : PL} {K : Int} {σ : ST} {P : Int → HP → Prop} (x : RX h π K σ) (k : P (bgA σ (π 0 0).toNat) h) : wX12_byGrant 7 h P := by
  obtain ⟨hp, pr, inv, row⟩ := id x
  have n12 := hp.1.2.1
  have n0 := hp.1.1
  have tr := inv.1
  have br := inv.2.1
  have tt : h 56 7 3084 = σ 0 0 0 := row.1.1
  unfold wX12_byGrant
  have key : ∀ (d m : Nat) (l2 : Int), (π 0 0).toNat - m = d → m ≤ (π 0 0).toNat → (bgA σ m = -1 → l2 = 0) → (bgA σ m ≠ -1 → l2 = ddlA σ (bgA σ m)) → wX12_byGrant_6 7 (fun l30 h31 => P l30 h31) (d + 1) (bgA σ m) l2 m h := by
    intro d
    induction d with
    | zero =>
      intro m l2 hd hm h1 h2
      have e : m = (π 0 0).toNat := by omega
      subst e
      rw [wX12_byGrant_6, pr.1.1]
      exact ⟨by omega, by omega, fun _ => k, fun c => absurd (by omega) c⟩
    | succ d ih =>
      intro m l2 hd hm h1 h2
      have m1 : (m : Int) < π 0 0 := by omega
      have hd1 : (π 0 0).toNat - (m + 1) = d := by omega
      have hm1 : m + 1 ≤ (π 0 0).toNat := by omega
      have cls := inv.2.2.2.2.2.2.1 m (by omega) m1
      have cls1 := cls.1
      have q6 := inv.qln m (by omega) m1
      have e17 := (row.2.2 m (by omega) m1).1.2.2.2.2.2
      rw [wX12_byGrant_6, pr.1.1, e17]
      have stay : bgA σ (m + 1) = bgA σ m → wX12_byGrant_86 7 (bgA σ m) l2 m (fun y1 y2 y3 hy => wX12_byGrant_6 7 (fun l30 h31 => P l30 h31) (d + 1) y1 y2 y3 hy) h := by
        intro hn
        unfold wX12_byGrant_86
        have := ih (m + 1) l2 hd1 hm1 (by rw [hn]; exact h1) (by rw [hn]; exact h2)
        rw [hn] at this
        exact this
      refine ⟨by omega, by omega, fun c => absurd c (by omega), fun _ => ⟨by omega, by omega, fun c => stay (bgA_n (fun q => by omega)), fun c => ?_⟩⟩
      have h6 : 0 < σ 6 m 0 := by omega
      refine hasCurve_r (k := 0) x (by omega) m1 (by omega) (fun y hy hq => ?_)
      rw [show (3 * (m : Int) + 0) = 3 * m by omega] at hq
      refine ⟨by omega, fun c2 => stay (bgA_n (fun q => by have := hq.mpr q.2.1; omega)), fun c2 => ?_⟩
      have hm' : 0 < σ 11 (3 * m) 0 := hq.mp (by omega)
      have ge := grant_rng inv (c := m) (by omega) m1 (n := σ 2 m 0) (Int.le_refl _) (by omega)
      have er : -2147483648 ≤ eligA σ m ∧ eligA σ m < 2147483648 := by unfold eligA; omega
      refine elig_r x (by omega) m1 hm' ⟨er, by omega, fun c3 => ?_, fun c3 => stay (bgA_n (fun q => by omega))⟩
      have zq := cls.2.2.2.2.2.1 0 (Int.le_refl _) h6
      have gd := grant_rng inv (c := m) (by omega) m1 (n := σ 2 m 0 + σ 7 m 0) (by omega) (by omega)
      have dr : -2147483648 ≤ ddlA σ m ∧ ddlA σ m < 2147483648 := by unfold ddlA; omega
      have brr := bgA_rng σ m
      have l1r : -2147483648 ≤ bgA σ m ∧ bgA σ m < 2147483648 := by rcases brr with r | r <;> omega
      refine ddl_r x (by omega) m1 hm' h6 ⟨⟨l1r, fun c4 => ⟨dr, ?_⟩⟩, fun t21 t22 ht => ?_⟩
      · rw [h2 c4]
        rcases brr with r | r
        · exact absurd r c4
        · have cb := inv.2.2.2.2.2.2.1 (bgA σ m) r.1 (by omega)
          have z := cb.2.2.2.2.2.1 0 (Int.le_refl _) r.2.2.1
          have cb1 := cb.1
          have := grant_rng inv (c := bgA σ m) r.1 (by omega) (n := σ 2 (bgA σ m) 0 + σ 7 (bgA σ m) 0) (by omega) (by omega)
          unfold ddlA; omega
      · have et : (t21 = bgA σ (m + 1) ∧ t22 = ddlA σ (bgA σ (m + 1))) ∧ bgA σ (m + 1) ≠ -1 := by
          by_cases c4 : bgA σ m = -1
          · have e := bgA_y (σ := σ) (m := m) ⟨h6, hm', by omega, Or.inl c4⟩
            rw [e]; exact ⟨ht.1 c4, by omega⟩
          · have h3 := ht.2 c4
            have l2e := h2 c4
            by_cases c5 : ddlA σ m < l2
            · have e := bgA_y (σ := σ) (m := m) ⟨h6, hm', by omega, Or.inr (by omega)⟩
              rw [e]; exact ⟨h3.1 c5, by omega⟩
            · have e := bgA_n (σ := σ) (m := m) (fun q => by rcases q.2.2.2 with u | u <;> omega)
              rw [e, ← l2e]; exact ⟨h3.2 c5, c4⟩
        unfold wX12_byGrant_86
        rw [et.1.1, et.1.2]
        exact ih (m + 1) _ hd1 hm1 (fun q => absurd q et.2) (fun _ => rfl)
  exact ⟨_, key _ 0 0 rfl (by omega) (fun _ => rfl) (fun q => absurd rfl q)⟩
theorem leastIn_r {h : HP} {π : PL} {K i : Int} {σ : ST} {P : Int → HP → Prop} (x : RX h π K σ) (hi : (0 ≤ i ∧ i < π 0 0) ∨ i = 12) (k : P (leastIn π σ i) h) : wX12_leastIn 7 (rc i) h P := by
  obtain ⟨hp, pr, inv, row⟩ := id x
  have n12 := hp.1.2.1
  have n0 := hp.1.1
  have tr := inv.1
  have cr := inv.2.2.1
  have tt : h 56 7 3084 = σ 0 0 0 := row.1.1
  have rci : -1 ≤ rc i ∧ rc i < 12 := by unfold rc; split <;> omega
  unfold wX12_leastIn
  have loop : ∀ (d m : Nat), (π 0 0).toNat - m = d → m ≤ (π 0 0).toNat → wX12_leastIn_4 7 (rc i) (fun l32 h33 => P l32 h33) (d + 1) (lstI π σ i m) m h := by
    intro d
    induction d with
    | zero =>
      intro m hd hm
      have e : m = (π 0 0).toNat := by omega
      subst e
      rw [wX12_leastIn_4, pr.1.1]
      exact ⟨by omega, by omega, fun _ => k, fun c => absurd (by omega) c⟩
    | succ d ih =>
      intro m hd hm
      have m1 : (m : Int) < π 0 0 := by omega
      have hd1 : (π 0 0).toNat - (m + 1) = d := by omega
      have hm1 : m + 1 ≤ (π 0 0).toNat := by omega
      have hn := ih (m + 1) hd1 hm1
      have ep := pr.par (c := m) (by omega) m1
      have pk := par_ok hp.1 (a := m) (by omega) m1
      have rq := rc_eq hp.1 (c := m) (i := i) (by omega) m1 hi
      have rr : -1 ≤ rc (π 1 m) ∧ rc (π 1 m) < 12 := by unfold rc; split <;> omega
      have stay : ¬ (π 1 m = i ∧ 0 < hel π σ m ∧ fitA π σ m ≤ σ 0 0 0 ∧ (lstI π σ i m = -1 ∨ σ 3 m 0 < σ 3 (lstI π σ i m) 0)) → wX12_leastIn_87 7 (rc i) (lstI π σ i m) m (fun y2 y3 hy => wX12_leastIn_4 7 (rc i) (fun l32 h33 => P l32 h33) (d + 1) y2 y3 hy) h := by
        intro hns
        unfold wX12_leastIn_87
        rw [lstI_n hns] at hn
        exact hn
      rw [wX12_leastIn_4, pr.1.1, ep]
      refine ⟨by omega, by omega, fun z => absurd z (by omega), fun _ => ⟨by omega, by omega, by omega, fun z => stay (fun u => z (rq.mpr u.1)), fun z => active_r x (by omega) m1 (fun y hy hq => ⟨by omega, fun z2 => stay (fun u => by have := hq.mpr u.2.1; omega), fun z2 => ?_⟩)⟩⟩
      have lr := lstI_rng π σ i m
      have fm := fitA_rng hp.1 inv 12 m (by omega) m1 (by omega)
      have e14 := (row.2.2 m (by omega) m1).1.2.2.1
      have vr := (inv.2.2.2.2.2.2.1 m (by omega) m1).2.1
      have best : lstI π σ i m ≠ -1 → (0 ≤ lstI π σ i m ∧ lstI π σ i m < 12) ∧ h 56 7 (257 * lstI π σ i m + 14) = σ 3 (lstI π σ i m) 0 ∧ (0 ≤ σ 3 (lstI π σ i m) 0 ∧ σ 3 (lstI π σ i m) 0 ≤ 6500 * σ 0 2 0) := by
        intro w
        rcases lr with v | v
        · exact absurd v w
        · exact ⟨⟨v.1, by omega⟩, (row.2.2 _ v.1 (by omega)).1.2.2.1, (inv.2.2.2.2.2.2.1 _ v.1 (by omega)).2.1⟩
      have l1r : -2147483648 ≤ lstI π σ i m ∧ lstI π σ i m < 2147483648 := by rcases lr with r | r <;> omega
      refine fit_r x 13 (by omega) m1 (by omega) ?_
      rw [tt, e14]
      refine ⟨⟨by omega, by omega, fun _ => ⟨l1r, fun w => ?_⟩⟩, fun t21 ht => ?_⟩
      · obtain ⟨b1, b2, b3⟩ := best w
        rw [b2]
        exact ⟨by omega, by omega, by omega, by omega⟩
      · have et : t21 = lstI π σ i (m + 1) := by
          by_cases y1 : fitA π σ m ≤ σ 0 0 0
          · have h3 := ht.1 y1
            by_cases y2 : lstI π σ i m = -1
            · rw [lstI_y ⟨rq.mp z, hq.mp (by omega), y1, Or.inl y2⟩]; exact h3.1 y2
            · have h4 := h3.2 y2
              rw [(best y2).2.1] at h4
              by_cases y3 : σ 3 (lstI π σ i m) 0 ≤ σ 3 m 0
              · rw [lstI_n (fun u => by rcases u.2.2.2 with v | v <;> omega)]; exact h4.1 y3
              · rw [lstI_y ⟨rq.mp z, hq.mp (by omega), y1, Or.inr (by omega)⟩]; exact h4.2 y3
          · rw [lstI_n (fun u => by omega)]; exact ht.2 y1
        unfold wX12_leastIn_87
        rw [et]
        exact hn
  exact ⟨_, loop _ 0 rfl (by omega)⟩
theorem byShare_r {h : HP} {π : PL} {K : Int} {σ : ST} {P : Int → HP → Prop} (x : RX h π K σ) (k : P (byShareA π σ) h) : wX12_byShare 7 h P := by
  obtain ⟨hp, pr, inv, row⟩ := id x
  have n12 := hp.1.2.1
  unfold wX12_byShare
  have down : ∀ (d : Nat) (c : Int), (c = -1 ∨ (0 ≤ c ∧ c < π 0 0 ∧ π 0 0 - c ≤ d)) → bsF π σ d c = byShareA π σ → wX12_byShare_6 7 (fun l12 h13 => P l12 h13) (d + 1) c h := by
    intro d
    induction d with
    | zero =>
      intro c hc hb
      have e : c = -1 := by omega
      subst e
      rw [wX12_byShare_6]
      refine ⟨by omega, fun _ => ?_, fun z => absurd rfl z⟩
      have : bsF π σ 0 (-1) = -1 := rfl
      rw [← this, hb]
      exact k
    | succ d ih =>
      intro c hc hb
      rw [wX12_byShare_6]
      refine ⟨by omega, fun z => ?_, fun z => ?_⟩
      · have : bsF π σ (d + 1) c = c := by unfold bsF; rw [if_pos (Or.inl z)]
        rw [← this, hb]
        exact k
      · have c0 : 0 ≤ c := by omega
        have c1 : c < π 0 0 := by omega
        refine isLeaf_r hp.1 pr c0 c1 (fun y hy hq => ⟨by omega, fun z2 => ?_, fun z2 => ?_⟩)
        · have : bsF π σ (d + 1) c = c := by unfold bsF; rw [if_pos (Or.inr (hq.mp (by omega)))]
          rw [← this, hb]
          exact k
        · have nk : ¬ (c = -1 ∨ kids π c = 0) := fun u => by
            rcases u with u | u
            · exact z u
            · have := hq.mpr u; omega
          have e : bsF π σ (d + 1) c = bsF π σ d (leastIn π σ c) := by
            show (if c = -1 ∨ kids π c = 0 then c else bsF π σ d (leastIn π σ c)) = _
            rw [if_neg nk]
          rw [e] at hb
          have rcc : rc c = c := by unfold rc; rw [if_neg (by omega)]
          have := leastIn_r (i := c) (P := fun x10 h9 => wX12_byShare_6 7 (fun l12 h13 => P l12 h13) (d + 1) x10 h9) x (Or.inl ⟨c0, c1⟩) (ih _ ?_ hb)
          · rw [rcc] at this; exact this
          · have el : leastIn π σ c = lstI π σ c (π 0 0).toNat := rfl
            rcases lstI_rng π σ c (π 0 0).toNat with r | r
            · exact Or.inl r
            · refine Or.inr ⟨r.1, by omega, ?_⟩
              rcases hp.1.2.2 _ r.1 (by omega) with v | v
              · rw [r.2.2.1] at v; omega
              · rw [r.2.2.1] at v; omega
  have := leastIn_r (i := 12) (P := fun x2 h1 => (∃ f11 : Nat, wX12_byShare_6 7 (fun l12 h13 => P l12 h13) f11 x2 h1)) x (Or.inr rfl) ⟨14, down 13 _ ?_ rfl⟩
  · exact this
  · have el : leastIn π σ 12 = lstI π σ 12 (π 0 0).toNat := rfl
    rcases lstI_rng π σ 12 (π 0 0).toNat with r | r
    · exact Or.inl r
    · exact Or.inr ⟨by omega, by omega, by omega⟩
