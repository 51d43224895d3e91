/-- what a line is looked at with -/
def LX (h : HP) (L : Int) (π : PL) (K : Int) (σ : ST) : Prop := PlanOK π ∧ PlanC h 1 π ∧ AInv π K σ ∧ LineC h L π σ
theorem LX.fr {h h' : HP} {L M K : Int} {π : PL} {σ : ST} (x : LX h L π K σ) (f : FrL M h h') (hLM : L ≠ M) : LX h' L π K σ := ⟨x.1, x.2.1.fr f, x.2.2.1, x.2.2.2.fr f hLM⟩
theorem isLeaf_c {h : HP} {i c : Int} {π : PL} {P : Int → HP → Prop} (ht : treeOK π) (pc : PlanC h i π) (hc : 0 ≤ c ∧ c ≤ 12) (k : ∀ x, (x = 0 ∨ x = 1) → (x = 1 ↔ kids π c = 0) → P x h) : wX8_isLeaf i c h P := by
  have e := pc.2.2.1 c hc
  have r := kids_rng ht c
  unfold wX8_isLeaf
  rw [e]
  refine ⟨by omega, by omega, fun t ht => ?_⟩
  by_cases z : kids π c = 0
  · have := ht.2 z; subst this; exact ⟨Or.inr rfl, k 1 (Or.inr rfl) ⟨fun _ => z, fun _ => rfl⟩⟩
  · have := ht.1 z; subst this; exact ⟨Or.inl rfl, k 0 (Or.inl rfl) ⟨fun q => by omega, fun q => absurd q z⟩⟩
theorem LX.held {h : HP} {L K c : Int} {π : PL} {σ : ST} (x : LX h L π K σ) (hc : (0 ≤ c ∧ c < π 0 0) ∨ c = 12) : h 29 L c = hel π σ c ∧ 0 ≤ hel π σ c ∧ hel π σ c ≤ 240 := ⟨x.2.2.2.2 c hc, x.2.2.1.hel_rng x.1.1 c⟩
theorem isActive_c {h : HP} {L K c : Int} {π : PL} {σ : ST} {P : Int → HP → Prop} (x : LX h L π K σ) (hc : (0 ≤ c ∧ c < π 0 0) ∨ c = 12) (k : ∀ x, (x = 0 ∨ x = 1) → (x = 1 ↔ 0 < hel π σ c) → P x h) : wX6_isActive L c h P := by
  obtain ⟨e, r0, r1⟩ := x.held hc
  have := x.1.1.2.1
  unfold wX6_isActive
  rw [e]
  refine ⟨by omega, by omega, fun t ht => ?_⟩
  by_cases z : hel π σ c ≤ 0
  · have := ht.1 z; subst this; exact ⟨Or.inl rfl, k 0 (Or.inl rfl) ⟨fun q => by omega, fun q => by omega⟩⟩
  · have := ht.2 z; subst this; exact ⟨Or.inr rfl, k 1 (Or.inr rfl) ⟨fun q => by omega, fun q => rfl⟩⟩
theorem LX.slot {h : HP} {L K s : Int} {π : PL} {σ : ST} (x : LX h L π K σ) (s0 : 0 ≤ s) (s1 : s < 3 * π 0 0) : CurveC h L s σ ∧ slotOK σ s ∧ s < 36 := ⟨x.2.2.2.1.2.2.2.2 s s0 s1, x.2.2.1.2.2.2.2.2.2.2.2.2 s s0 s1, by have := x.1.1.2.1; omega⟩
theorem hasCurve_c {h : HP} {L K c k : Int} {π : PL} {σ : ST} {P : Int → HP → Prop} (x : LX h L π K σ) (c0 : 0 ≤ c) (c1 : c < π 0 0) (hk : 0 ≤ k ∧ k ≤ 2) (kk : ∀ x, (x = 0 ∨ x = 1) → (x = 1 ↔ 0 < σ 11 (3 * c + k) 0) → P x h) : wX6_hasCurve L c k h P := by
  obtain ⟨q1, q2, q3⟩ := x.slot (s := 3 * c + k) (by omega) (by omega)
  unfold wX6_hasCurve
  rw [show c * 3 + k = 3 * c + k by omega]
  exact has_c ⟨by omega, q3⟩ q1 q2 (fun x hx hq => ⟨hx, kk x hx hq⟩)
theorem sizeOf_c {h : HP} {L K c i : Int} {π : PL} {σ : ST} {P : Int → HP → Prop} (x : LX h L π K σ) (c0 : 0 ≤ c) (c1 : c < π 0 0) (hi : 0 ≤ i ∧ i < 20) (k : P (σ 7 c i) h) : wX6_sizeOf L c i h P := by
  obtain ⟨d1, d2⟩ := (x.2.2.2.1.2.1 c c0 c1).2.2.2.2
  have n12 := x.1.1.2.1
  unfold wX6_sizeOf
  rw [d2 i hi.1 hi.2]
  exact ⟨by omega, by omega, by omega, k⟩
theorem packets_c {h : HP} {L K c : Int} {π : PL} {σ : ST} {P : Int → HP → Prop} (x : LX h L π K σ) (c0 : 0 ≤ c) (c1 : c < π 0 0) (k : P (σ 6 c 0) h) : wX6_packets L c h P := by
  have n12 := x.1.1.2.1
  unfold wX6_packets
  refine isLeaf_c x.1.1 x.2.1 (by omega) (fun y hy hq => ⟨⟨by omega, fun _ => by omega⟩, fun t5 h5 => ?_⟩)
  have : t5 = σ 6 c 0 := by
    by_cases z : y = 0
    · rw [h5.1 z]
      exact ((x.2.2.1.2.2.2.2.2.2.1 c c0 c1).2.2.2.2.1 (fun q => by have := hq.mpr q; omega)).symm
    · rw [h5.2 z, (x.held (Or.inl ⟨c0, c1⟩)).1, hel_leaf x.1.1 c0 c1 (hq.mp (by omega))]
  rw [this]
  exact k
theorem grant_rng {π : PL} {K : Int} {σ : ST} (inv : AInv π K σ) {c : Int} (c0 : 0 ≤ c) (c1 : c < π 0 0) {n : Int} (h0 : σ 2 c 0 ≤ n) (h1 : n ≤ 3000) : 0 ≤ σ 12 (3 * c) n ∧ σ 12 (3 * c) n ≤ 310000 ∧ 0 ≤ σ 13 (3 * c) n ∧ σ 13 (3 * c) n ≤ 310000 := by
  obtain ⟨o1, o2, o3, o4⟩ := inv.2.2.2.2.2.2.2.2.2 (3 * c) (by omega) (by omega)
  rw [cur_0] at o2 o3 o4
  have := o4 (by omega) n h0
  have := (o2 n h0).1
  have := (o3 n h0).1
  have := inv.1
  omega
theorem upper_rng {π : PL} {K : Int} {σ : ST} (inv : AInv π K σ) {c : Int} (c0 : 0 ≤ c) (c1 : c < π 0 0) {n : Int} (h0 : σ 1 c 0 ≤ n) (h1 : n ≤ 3000) : 0 ≤ σ 12 (3 * c + 2) n ∧ σ 12 (3 * c + 2) n ≤ 310000 := by
  obtain ⟨o1, o2, o3, o4⟩ := inv.2.2.2.2.2.2.2.2.2 (3 * c + 2) (by omega) (by omega)
  rw [cur_2] at o2 o3 o4
  have := o4 (by omega) n h0
  have := (o2 n h0).1
  have := inv.1
  omega
theorem elig_c {h : HP} {L K c : Int} {π : PL} {σ : ST} {P : Int → HP → Prop} (x : LX h L π K σ) (c0 : 0 ≤ c) (c1 : c < π 0 0) (hm : 0 < σ 11 (3 * c) 0) (k : P (eligA σ c) h) : wX6_eligible L c h P := by
  obtain ⟨q1, q2, q3⟩ := x.slot (s := 3 * c) (by omega) (by omega)
  have w := q2.1.2 hm
  unfold wellC at w
  have b := x.2.2.1.2.2.2.2.2.2.1 c c0 c1
  have b1 := b.1
  have tr := x.2.2.1.1
  have br := x.2.2.1.2.1
  have gr := grant_rng x.2.2.1 c0 c1 (n := σ 2 c 0) (Int.le_refl _) (by omega)
  have e25 := (x.2.2.2.1.2.1 c c0 c1).2.1
  have n12 := x.1.1.2.1
  unfold wX6_eligible
  rw [show c * 3 + 0 = 3 * c by omega, e25, q1.1, q1.2.2.1]
  refine ⟨by omega, by omega, by omega, ⟨by omega, by omega⟩, fun t6 h6 => ?_⟩
  refine reached_E (by omega) q1 q2 hm ?_ ⟨by rw [cur_0]; exact Int.le_refl _, by omega⟩ (by omega) k
  by_cases z : σ 11 (3 * c) 0 ≤ σ 9 (3 * c) 0
  · rw [h6.1 z]; omega
  · rw [h6.2 z]; omega
theorem ddl_c {h : HP} {L K c : Int} {π : PL} {σ : ST} {P : Int → HP → Prop} (x : LX h L π K σ) (c0 : 0 ≤ c) (c1 : c < π 0 0) (hm : 0 < σ 11 (3 * c) 0) (hq : 0 < σ 6 c 0) (k : P (ddlA σ c) h) : wX6_deadline L c h P := by
  obtain ⟨q1, q2, q3⟩ := x.slot (s := 3 * c) (by omega) (by omega)
  have b := x.2.2.1.2.2.2.2.2.2.1 c c0 c1
  have b1 := b.1
  have bz := b.2.2.2.2.2.1 0 (Int.le_refl _) hq
  have tr := x.2.2.1.1
  have br := x.2.2.1.2.1
  have gr := grant_rng x.2.2.1 c0 c1 (n := σ 2 c 0 + σ 7 c 0) (by omega) (by omega)
  have e25 := (x.2.2.2.1.2.1 c c0 c1).2.1
  have n12 := x.1.1.2.1
  unfold wX6_deadline
  refine ⟨by omega, sizeOf_c x c0 c1 (by omega) ?_⟩
  rw [show c * 3 + 0 = 3 * c by omega, e25]
  refine ⟨by omega, reached_F (by omega) q1 q2 hm ⟨by rw [cur_0]; omega, by omega⟩ (by omega) k⟩
theorem bgA_y {σ : ST} {m : Nat} (h : 0 < σ 6 m 0 ∧ 0 < σ 11 (3 * m) 0 ∧ eligA σ m ≤ σ 0 0 0 ∧ (bgA σ m = -1 ∨ ddlA σ m < ddlA σ (bgA σ m))) : bgA σ (m + 1) = m := by show (if _ then _ else _) = _; rw [if_pos h]
theorem bgA_n {σ : ST} {m : Nat} (h : ¬ (0 < σ 6 m 0 ∧ 0 < σ 11 (3 * m) 0 ∧ eligA σ m ≤ σ 0 0 0 ∧ (bgA σ m = -1 ∨ ddlA σ m < ddlA σ (bgA σ m)))) : bgA σ (m + 1) = bgA σ m := by show (if _ then _ else _) = _; rw [if_neg h]
theorem pickD_c {h : HP} {L K : Int} {π : PL} {σ : ST} {P : Int → HP → Prop} (x : LX h L π K σ) (k : P (bgA σ (π 0 0).toNat) h) : wX6_pickByDeadline L h P := by
  have n12 := x.1.1.2.1
  have n0 := x.1.1.1
  have e8 : h 8 1 0 = π 0 0 := x.2.1.1.1
  have inv := x.2.2.1
  have tr := inv.1
  have tt : h 6 L 1 = σ 0 0 0 := x.2.2.2.1.1.1
  unfold wX6_pickByDeadline
  -- l2 is the deadline of the best so far
  have key : ∀ (d m : Nat) (l2 : Int), (π 0 0).toNat - m = d → m ≤ (π 0 0).toNat → (bgA σ m = -1 → l2 = 0) → (bgA σ m ≠ -1 → l2 = ddlA σ (bgA σ m)) → wX6_pickByDeadline_6 L (fun l30 h31 => P l30 h31) (d + 1) (bgA σ m) l2 m h := by
    intro d
    induction d with
    | zero =>
      intro m l2 hd hm h1 h2
      have e : m = (π 0 0).toNat := by omega
      subst e
      rw [wX6_pickByDeadline_6, e8]
      exact ⟨by omega, by omega, fun _ => k, fun c => absurd (by omega) c⟩
    | succ d ih =>
      intro m l2 hd hm h1 h2
      have m1 : (m : Int) < π 0 0 := by omega
      obtain ⟨eh, eh0, eh1⟩ := x.held (c := m) (Or.inl ⟨by omega, m1⟩)
      have cls := inv.2.2.2.2.2.2.1 m (by omega) m1
      rw [wX6_pickByDeadline_6, e8, eh]
      have stay : ∀ (hn : bgA σ (m + 1) = bgA σ m), wX6_pickByDeadline_76 L (bgA σ m) l2 m (fun y1 y2 y3 hy => wX6_pickByDeadline_6 L (fun l30 h31 => P l30 h31) (d + 1) y1 y2 y3 hy) h := by
        intro hn
        unfold wX6_pickByDeadline_76
        have := ih (m + 1) l2 (by omega) (by omega) (by rw [hn]; exact h1) (by rw [hn]; exact h2)
        rw [hn] at this
        exact this
      have leaf6 : 0 < σ 11 (3 * m) 0 → hel π σ m = σ 6 m 0 := fun q => hel_leaf x.1.1 (by omega) m1 (cls.2.2.2.2.2.2.2.1 q)
      refine ⟨by omega, by omega, fun c => absurd c (by omega), fun _ => ⟨by omega, by omega, fun c => stay (bgA_n (fun q => by have := leaf6 q.2.1; omega)), fun c => ?_⟩⟩
      obtain ⟨q1, q2, q3⟩ := x.slot (s := 3 * m) (by omega) (by omega)
      rw [show (m : Int) * 3 + 0 = 3 * m by omega]
      refine has_c ⟨by omega, q3⟩ q1 q2 (fun y hy hq => ⟨by omega, fun c2 => stay (bgA_n (fun q => by have := hq.mpr q.2.1; omega)), fun c2 => ?_⟩)
      have hm' : 0 < σ 11 (3 * m) 0 := hq.mp (by omega)
      have h6 : 0 < σ 6 m 0 := by have := leaf6 hm'; omega
      have ge := grant_rng inv (c := m) (by omega) m1 (n := σ 2 m 0) (Int.le_refl _) (by have := cls.1; have := inv.2.1; omega)
      have er : -2147483648 ≤ eligA σ m ∧ eligA σ m < 2147483648 := by unfold eligA; omega
      refine elig_c x (by omega) m1 hm' ⟨er, by omega, fun c3 => stay (bgA_n (fun q => by omega)), fun c3 => ?_⟩
      have gd := grant_rng inv (c := m) (by omega) m1 (n := σ 2 m 0 + σ 7 m 0) (by have := cls.2.2.2.2.2.1 0 (Int.le_refl _) h6; omega) (by have := cls.2.2.2.2.2.1 0 (Int.le_refl _) h6; have := cls.1; have := inv.2.1; omega)
      have dr : -2147483648 ≤ ddlA σ m ∧ ddlA σ m < 2147483648 := by unfold ddlA; omega
      have br := bgA_rng σ m
      refine ddl_c x (by omega) m1 hm' h6 ⟨⟨by omega, fun c4 => ⟨dr, ?_⟩⟩, fun t21 t22 ht => ?_⟩
      · rw [h2 c4]
        rcases br with r | r
        · exact absurd r c4
        · have cb := inv.2.2.2.2.2.2.1 (bgA σ m) r.1 (by omega)
          have z := cb.2.2.2.2.2.1 0 (Int.le_refl _) r.2.2.1
          have := grant_rng inv (c := bgA σ m) r.1 (by omega) (n := σ 2 (bgA σ m) 0 + σ 7 (bgA σ m) 0) (by omega) (by have := cb.1; have := inv.2.1; omega)
          unfold ddlA; omega
      · have et : t21 = bgA σ (m + 1) ∧ t22 = ddlA σ (bgA σ (m + 1)) := by
          by_cases c4 : bgA σ m = -1
          · have e := bgA_y (σ := σ) (m := m) ⟨h6, hm', by omega, Or.inl c4⟩
            rw [e]; exact ht.1 c4
          · have h3 := ht.2 c4
            have l2e := h2 c4
            by_cases c5 : l2 ≤ ddlA σ m
            · have e := bgA_n (σ := σ) (m := m) (fun q => by rcases q.2.2.2 with u | u <;> omega)
              rw [e, ← l2e]; exact h3.1 c5
            · have e := bgA_y (σ := σ) (m := m) ⟨h6, hm', by omega, Or.inr (by omega)⟩
              rw [e]; exact h3.2 c5
        have r1 := bgA_rng σ (m + 1)
        have ne : bgA σ (m + 1) ≠ -1 := by
          by_cases c4 : bgA σ m = -1
          · rw [bgA_y (σ := σ) (m := m) ⟨h6, hm', by omega, Or.inl c4⟩]; omega
          · by_cases c5 : l2 ≤ ddlA σ m
            · rw [bgA_n (σ := σ) (m := m) (fun q => by have := h2 c4; rcases q.2.2.2 with u | u <;> omega)]; exact c4
            · rw [bgA_y (σ := σ) (m := m) ⟨h6, hm', by omega, Or.inr (by have := h2 c4; omega)⟩]; omega
        unfold wX6_pickByDeadline_76
        rw [et.1, et.2]
        exact ih (m + 1) _ (by omega) (by omega) (fun q => absurd q ne) (fun _ => rfl)
  exact ⟨_, key _ 0 0 rfl (by omega) (fun _ => rfl) (fun q => absurd rfl q)⟩
theorem lstK_spec {π : PL} {σ : ST} {g : Int → Int} {c : Int} : ∀ m : Nat, (∀ k : Nat, k < m → π 1 k = c → 0 < hel π σ k → 0 ≤ g k) →
    (lstK π σ g c m = -1 ∧ ∀ k : Nat, k < m → π 1 k = c → ¬ 0 < hel π σ k) ∨ (0 ≤ lstK π σ g c m ∧ (∃ k : Nat, k < m ∧ π 1 k = c ∧ 0 < hel π σ k ∧ g k = lstK π σ g c m) ∧ ∀ k : Nat, k < m → π 1 k = c → 0 < hel π σ k → lstK π σ g c m ≤ g k) := by
  intro m
  induction m with
  | zero => intro _; exact Or.inl ⟨rfl, fun k hk => by omega⟩
  | succ m ih =>
    intro hg
    have ih := ih (fun k hk => hg k (by omega))
    by_cases q : π 1 m = c ∧ 0 < hel π σ m
    · have gm := hg m (by omega) q.1 q.2
      have e : lstK π σ g c (m + 1) = if lstK π σ g c m = -1 then g m else min (lstK π σ g c m) (g m) := by show (if _ then _ else _) = _; rw [if_pos q]
      right
      rcases ih with ⟨i1, i2⟩ | ⟨i0, ⟨k, k1, k2, k3, k4⟩, i2⟩
      · rw [if_pos i1] at e
        rw [e]
        refine ⟨gm, ⟨m, by omega, q.1, q.2, rfl⟩, fun k hk h1 h2 => ?_⟩
        by_cases z : k = m
        · subst z; exact Int.le_refl _
        · exact absurd h2 (i2 k (by omega) h1)
      · rw [if_neg (by omega)] at e
        rw [e]
        refine ⟨by omega, ?_, fun k' hk h1 h2 => ?_⟩
        · by_cases z : lstK π σ g c m ≤ g m
          · exact ⟨k, by omega, k2, k3, by omega⟩
          · exact ⟨m, by omega, q.1, q.2, by omega⟩
        · by_cases z : k' = m
          · subst z; omega
          · have := i2 k' (by omega) h1 h2; omega
    · have e : lstK π σ g c (m + 1) = lstK π σ g c m := by show (if _ then _ else _) = _; rw [if_neg q]
      rw [e]
      rcases ih with ⟨i1, i2⟩ | ⟨i0, ⟨k, k1, k2, k3, k4⟩, i2⟩
      · refine Or.inl ⟨i1, fun k hk h1 h2 => ?_⟩
        by_cases z : k = m
        · subst z; exact q ⟨h1, h2⟩
        · exact i2 k (by omega) h1 h2
      · refine Or.inr ⟨i0, ⟨k, by omega, k2, k3, k4⟩, fun k' hk h1 h2 => ?_⟩
        by_cases z : k' = m
        · subst z; exact absurd ⟨h1, h2⟩ q
        · exact i2 k' (by omega) h1 h2
theorem lstK_congr {π : PL} {σ : ST} {g g' : Int → Int} {c : Int} : ∀ m : Nat, (∀ k : Nat, k < m → π 1 k = c → g k = g' k) → lstK π σ g c m = lstK π σ g' c m := by
  intro m
  induction m with
  | zero => intro _; rfl
  | succ m ih =>
    intro h
    have i := ih (fun k hk => h k (by omega))
    show (if _ then _ else _) = (if _ then _ else _)
    by_cases q : π 1 m = c ∧ 0 < hel π σ m
    · rw [if_pos q, if_pos q, i, h m (by omega) q.1]
    · rw [if_neg q, if_neg q, i]
theorem fitF_fuel {π : PL} {σ : ST} (ht : treeOK π) : ∀ (f : Nat) (c : Int), 0 ≤ c → c < π 0 0 → π 0 0 - c ≤ f → fitF π σ f c = fitF π σ (f + 1) c := by
  intro f
  induction f with
  | zero => intro c c0 c1 h; omega
  | succ f ih =>
    intro c c0 c1 h
    show max (ownF σ c) (lstK π σ (fitF π σ f) c (π 0 0).toNat) = max (ownF σ c) (lstK π σ (fitF π σ (f + 1)) c (π 0 0).toNat)
    rw [lstK_congr (g := fitF π σ f) (g' := fitF π σ (f + 1)) _ (fun k hk hkc => ?_)]
    have hk' : c < k := by
      rcases ht.2.2 k (by omega) (by omega) with q | q
      · rw [hkc] at q; have := ht.2.1; omega
      · rw [hkc] at q; omega
    exact ih k (by omega) (by omega) (by omega)
theorem fitA_eq {π : PL} {σ : ST} (ht : treeOK π) {c : Int} (c0 : 0 ≤ c) (c1 : c < π 0 0) : fitA π σ c = max (ownF σ c) (lstK π σ (fitA π σ) c (π 0 0).toNat) := by
  show max (ownF σ c) (lstK π σ (fitF π σ 12) c (π 0 0).toNat) = _
  rw [lstK_congr (g := fitF π σ 12) (g' := fitA π σ) _ (fun k hk hkc => ?_)]
  have := ht.2.1
  exact fitF_fuel ht 12 k (by omega) (by omega) (by omega)
theorem ownF_rng {π : PL} {K : Int} {σ : ST} (inv : AInv π K σ) {c : Int} (c0 : 0 ≤ c) (c1 : c < π 0 0) : 0 ≤ ownF σ c ∧ ownF σ c ≤ 310000 := by
  have b := (inv.2.2.2.2.2.2.1 c c0 c1).1
  have := inv.1
  have := inv.2.1
  unfold ownF
  split
  · exact upper_rng inv c0 c1 (n := σ 1 c 0) (Int.le_refl _) (by omega)
  · omega
theorem fitA_rng {π : PL} {K : Int} {σ : ST} (ht : treeOK π) (inv : AInv π K σ) : ∀ (d : Nat) (c : Int), 0 ≤ c → c < π 0 0 → π 0 0 - c ≤ d → 0 ≤ fitA π σ c ∧ fitA π σ c ≤ 310000 := by
  intro d
  induction d with
  | zero => intro c c0 c1 h; omega
  | succ d ih =>
    intro c c0 c1 h
    rw [fitA_eq ht c0 c1]
    have o := ownF_rng inv c0 c1
    have ch : ∀ k : Nat, k < (π 0 0).toNat → π 1 k = c → 0 ≤ fitA π σ k ∧ fitA π σ k ≤ 310000 := by
      intro k hk hkc
      have hk' : c < k := by
        rcases ht.2.2 k (by omega) (by omega) with q | q
        · rw [hkc] at q; have := ht.2.1; omega
        · rw [hkc] at q; omega
      exact ih k (by omega) (by omega) (by omega)
    rcases lstK_spec (π := π) (σ := σ) (g := fitA π σ) (c := c) (π 0 0).toNat (fun k hk h1 _ => (ch k hk h1).1) with ⟨q1, -⟩ | ⟨q0, ⟨k, k1, k2, k3, k4⟩, -⟩
    · rw [q1]; omega
    · rw [← k4]; have := ch k k1 k2; omega
theorem LX.fit {h : HP} {L K c : Int} {π : PL} {σ : ST} (x : LX h L π K σ) (c0 : 0 ≤ c) (c1 : c < π 0 0) : 0 ≤ fitA π σ c ∧ fitA π σ c ≤ 310000 :=
  fitA_rng x.1.1 x.2.2.1 12 c c0 c1 (by have := x.1.1.2.1; omega)
/-- an active class in which others are has an active one right in it -/
theorem hel_child {π : PL} {K : Int} {σ : ST} (ht : treeOK π) (inv : AInv π K σ) {c : Int} (hc : (0 ≤ c ∧ c < π 0 0) ∨ c = 12) (hk : kids π c ≠ 0) (h : 0 < hel π σ c) : ∃ k : Nat, (k : Int) < π 0 0 ∧ π 1 k = c ∧ 0 < hel π σ k := by
  obtain ⟨l, l0, l1, l2, l3⟩ := (hel_pos (fun k k0 k1 => (inv.qln k k0 k1).1)).mp h
  have ne : l ≠ c := fun e => by
    have := (inv.2.2.2.2.2.2.1 l l0 l1).2.2.2.2.1 (by rw [e]; exact hk)
    omega
  -- along the chain from l to c the last but one
  have key : ∀ (j : Nat) (b : Int), 0 ≤ b → b < π 0 0 → inCh π l b → b ≠ c → upc π j b = c → ∃ k : Nat, (k : Int) < π 0 0 ∧ π 1 k = c ∧ inCh π l k := by
    intro j
    induction j with
    | zero => intro b _ _ _ hbc hj; exact absurd hj hbc
    | succ j ih =>
      intro b b0 b1 hlb hbc hj
      have n12 := ht.2.1
      rw [upc_s π j (by omega)] at hj
      by_cases q : π 1 b = c
      · exact ⟨b.toNat, by omega, by rw [Int.toNat_of_nonneg b0]; exact q, by rw [Int.toNat_of_nonneg b0]; exact hlb⟩
      · rcases par_ok ht b0 b1 with r | r
        · rw [r, upc_12] at hj; exact absurd (by rw [r]; exact hj) q
        · obtain ⟨i, hi⟩ := hlb
          exact ih _ r.1 r.2 (inCh_tr i hi ((inCh_iff (by omega)).mpr (Or.inr (inCh_rf _ _)))) q hj
  obtain ⟨j, hj⟩ := l2
  obtain ⟨k, k1, k2, k3⟩ := key j l l0 l1 (inCh_rf _ _) ne hj
  exact ⟨k, k1, k2, (hel_pos (fun k k0 k1 => (inv.qln k k0 k1).1)).mpr ⟨l, l0, l1, k3, l3⟩⟩
def Fr33 (L : Int) (h h' : HP) : Prop := ∀ k i, ¬ (i = L ∧ k = 33) → h' k i = h k i
theorem Fr33.up {L j v : Int} {h : HP} : Fr33 L h (up h 33 L j v) := by
  intro k i q
  by_cases e : i = L
  · exact congrFun (up_k (fun z => q ⟨e, z⟩)) i
  · exact up_i e
theorem Fr33.tr {L : Int} {h h' h'' : HP} (a : Fr33 L h h') (b : Fr33 L h' h'') : Fr33 L h h'' := fun k i q => by rw [b k i q, a k i q]
theorem Fr33.frL {L : Int} {h h' : HP} (f : Fr33 L h h') : FrL L h h' := fun k i q => f k i (fun z => q ⟨z.1, by unfold lnK; omega⟩)
theorem CurveC.keep {h h' : HP} {L s : Int} {σ : ST} (e : ∀ k, 13 ≤ k → k ≤ 19 → h' k L = h k L) (q : CurveC h L s σ) : CurveC h' L s σ := by
  unfold CurveC LaidC at *
  rw [e 13 (by omega) (by omega), e 14 (by omega) (by omega), e 15 (by omega) (by omega), e 16 (by omega) (by omega), e 17 (by omega) (by omega), e 18 (by omega) (by omega), e 19 (by omega) (by omega)]
  exact q
theorem LX.fr33 {h h' : HP} {L K : Int} {π : PL} {σ : ST} (x : LX h L π K σ) (f : Fr33 L h h') : LX h' L π K σ := by
  obtain ⟨x1, x2, x3, ⟨a1, a2, a3, a4, a5⟩, b⟩ := x
  have g : ∀ k, k ≠ 33 → h' k L = h k L := fun k hk => f k L (fun z => hk z.2)
  refine ⟨x1, x2.fr f.frL, x3, ⟨?_, ?_, ?_, ?_, fun s s0 s1 => (a5 s s0 s1).keep (fun k k0 k1 => g k (by omega))⟩, ?_⟩
  · rw [g 6 (by decide)]; exact a1
  · unfold QueC at *
    rw [g 24 (by decide), g 25 (by decide), g 26 (by decide), g 28 (by decide), g 30 (by decide), g 31 (by decide)]; exact a2
  · rw [g 27 (by decide)]; exact a3
  · rw [g 32 (by decide)]; exact a4
  · unfold HeldC at *
    rw [g 29 (by decide)]; exact b
def FitEx (π : PL) (σ : ST) (l b v : Int) : Prop := ∃ k : Nat, (k : Int) < π 0 0 ∧ l < k ∧ π 1 k = b ∧ 0 < hel π σ k ∧ fitA π σ k = v
/-- the fits behind classes above l -/
def FitI (h : HP) (L : Int) (π : PL) (σ : ST) (l : Int) : Prop :=
  (∀ b, 0 ≤ b → b < π 0 0 → l < b → 0 < hel π σ b → h 33 L b = fitA π σ b) ∧
  (∀ b, (0 ≤ b ∧ b < π 0 0 ∧ b ≤ l) ∨ b = 12 → (kids π b = 0 → h 33 L b = 0) ∧ (kids π b ≠ 0 → (0 ≤ h 33 L b ∧ h 33 L b ≤ 1000000) ∧ (h 33 L b = 1000000 ∨ FitEx π σ l b (h 33 L b)) ∧ (∀ k : Nat, (k : Int) < π 0 0 → l < k → π 1 k = b → 0 < hel π σ k → h 33 L b ≤ fitA π σ k)))
theorem fits_c {h : HP} {L K : Int} {π : PL} {σ : ST} {P : HP → Prop} (x : LX h L π K σ) (k : ∀ h', Fr33 L h h' → (∀ c, 0 ≤ c → c < π 0 0 → 0 < hel π σ c → h' 33 L c = fitA π σ c) → P h') : wX6_weighFits L h P := by
  have n12 := x.1.1.2.1
  have n0 := x.1.1.1
  unfold wX6_weighFits
  -- downwards
  have down : ∀ (d : Nat) (l : Int) (h' : HP), l + 1 = d → l < π 0 0 → Fr33 L h h' → FitI h' L π σ l → wX6_weighFits_47 L (fun h57 => P h57) (d + 1) l h' := by
    intro d
    induction d with
    | zero =>
      intro l h' hd hl f q
      rw [wX6_weighFits_47]
      exact ⟨by omega, fun _ => k h' f (fun c c0 c1 ha => q.1 c c0 c1 (by omega) ha), fun c => absurd (by omega) c⟩
    | succ d ih =>
      intro l h' hd hl f q
      have l0 : 0 ≤ l := by omega
      have x' := x.fr33 f
      obtain ⟨eh, eh0, eh1⟩ := x'.held (c := l) (Or.inl ⟨l0, hl⟩)
      have pl := par_ok x.1.1 l0 hl
      have pl2 := x.1.1.2.2 l l0 hl
      rw [wX6_weighFits_47, eh]
      refine ⟨by omega, fun c => absurd c (by omega), fun _ => ⟨by omega, by omega, fun c => ?_, fun c => ?_⟩⟩
      · unfold wX6_weighFits_181
        have e1 : l + -1 = l - 1 := by omega
        rw [e1]
        refine ih (l - 1) h' (by omega) (by omega) f ⟨fun b b0 b1 hb ha => ?_, fun b hb => ?_⟩
        · by_cases z : b = l
          · subst z; omega
          · exact q.1 b b0 b1 (by omega) ha
        · obtain ⟨q1, q2⟩ := q.2 b (by omega)
          refine ⟨q1, fun z => ?_⟩
          obtain ⟨r1, r2, r3⟩ := q2 z
          refine ⟨r1, ?_, fun k' k1 k2 k3 k4 => ?_⟩
          · rcases r2 with r2 | ⟨k', k1, k2, k3, k4, k5⟩
            · exact Or.inl r2
            · exact Or.inr ⟨k', k1, by omega, k3, k4, k5⟩
          · by_cases w : (k' : Int) = l
            · rw [w] at k4; omega
            · exact r3 k' k1 (by omega) k3 k4
      · have hact : 0 < hel π σ l := by omega
        -- with its own reach
        have fin : ∀ v, v = ownF σ l → wX6_weighFits_104 L l v (fun y1 hy => wX6_weighFits_47 L (fun h57 => P h57) (d + 1) y1 hy) h' := by
          intro v hv
          have o := ownF_rng x.2.2.1 l0 hl
          have fl := x.fit l0 hl
          have ql := q.2 l (Or.inl ⟨l0, hl, Int.le_refl _⟩)
          have r33 : 0 ≤ h' 33 L l ∧ h' 33 L l ≤ 1000000 := by
            by_cases z : kids π l = 0
            · rw [ql.1 z]; omega
            · exact (ql.2 z).1
          have ef : max (h' 33 L l) (ownF σ l) = fitA π σ l := by
            rw [fitA_eq x.1.1 l0 hl]
            have ch : ∀ k : Nat, (k : Int) < π 0 0 → π 1 k = l → l < k := by
              intro k hk hkc
              rcases x.1.1.2.2 k (by omega) hk with w | w
              · rw [hkc] at w; omega
              · rw [hkc] at w; omega
            rcases lstK_spec (π := π) (σ := σ) (g := fitA π σ) (c := l) (π 0 0).toNat (fun k hk _ _ => (x.fit (c := k) (by omega) (by omega)).1) with ⟨w1, w2⟩ | ⟨w0, ⟨k', k1, k2, k3, k4⟩, w2⟩
            · by_cases z : kids π l = 0
              · rw [ql.1 z, w1]; omega
              · obtain ⟨k', k1, k2, k3⟩ := hel_child x.1.1 x.2.2.1 (Or.inl ⟨l0, hl⟩) z hact
                exact absurd k3 (w2 k' (by omega) k2)
            · have z : kids π l ≠ 0 := by
                have := (kidN_pos (π := π) (c := l) (π 0 0).toNat).2.2.mpr ⟨k', k1, k2⟩
                unfold kids; omega
              obtain ⟨r1, r2, r3⟩ := ql.2 z
              have u1 := r3 k' (by omega) (ch k' (by omega) k2) k2 k3
              have u3 := (x.fit (c := k') (by omega) (by omega)).2
              rcases r2 with r2 | ⟨k'', j1, j2, j3, j4, j5⟩
              · omega
              · have := w2 k'' (by omega) j3 j4
                omega
          unfold wX6_weighFits_104
          refine ⟨by omega, ⟨by omega, by omega, fun _ => by omega⟩, fun t27 h27 => ⟨by omega, fun h29 e29 => ?_⟩⟩
          have e27 : t27 = fitA π σ l := by
            rw [← ef, ← hv]
            by_cases z : v ≤ h' 33 L l
            · rw [h27.1 z]; omega
            · rw [h27.2 z]; omega
          have f29 : Fr33 L h h29 := by rw [e29]; exact f.tr Fr33.up
          have x29 := x.fr33 f29
          have ep : h29 37 1 l = π 1 l := (x29.2.1.2.1 l l0 hl).1
          have a29 : h29 33 L l = fitA π σ l := by rw [e29, up_eq, e27]
          have nl : π 1 l ≠ l := by omega
          have p29 : h29 33 L (π 1 l) = h' 33 L (π 1 l) := by rw [e29, up_j nl]
          have pk : kids π (π 1 l) ≠ 0 := by
            have := (kidN_pos (π := π) (c := π 1 l) (π 0 0).toNat).2.2.mpr ⟨l.toNat, by omega, by rw [Int.toNat_of_nonneg l0]⟩
            unfold kids; omega
          obtain ⟨r1, r2, r3⟩ := (q.2 (π 1 l) (by omega)).2 pk
          rw [ep, a29, p29]
          refine ⟨by omega, by omega, by omega, ⟨by omega, by omega, fun _ => by omega, fun _ => by omega⟩, fun t38 h38 => ⟨by omega, fun h40 e40 => ?_⟩⟩
          have e38 : t38 = min (h' 33 L (π 1 l)) (fitA π σ l) := by
            by_cases z : h' 33 L (π 1 l) ≤ fitA π σ l
            · rw [h38.1 z]; omega
            · rw [h38.2 z]; omega
          unfold wX6_weighFits_181
          have e1 : l + -1 = l - 1 := by omega
          rw [e1]
          have g40 : ∀ b, h40 33 L b = if b = π 1 l then min (h' 33 L (π 1 l)) (fitA π σ l) else if b = l then fitA π σ l else h' 33 L b := by
            intro b
            rw [e40, up_ji, e38, e29, up_ji, e27]
          refine ih (l - 1) h40 (by omega) (by omega) (by rw [e40]; exact f29.tr Fr33.up) ⟨fun b b0 b1 hb ha => ?_, fun b hb => ?_⟩
          · rw [g40, if_neg (by omega)]
            by_cases z : b = l
            · rw [if_pos z, z]
            · rw [if_neg z]; exact q.1 b b0 b1 (by omega) ha
          · obtain ⟨q1, q2⟩ := q.2 b (by omega)
            rw [g40]
            by_cases z : b = π 1 l
            · rw [if_pos z]
              subst z
              refine ⟨fun w => absurd w pk, fun _ => ⟨by omega, ?_, fun k' k1 k2 k3 k4 => ?_⟩⟩
              · by_cases w : h' 33 L (π 1 l) ≤ fitA π σ l
                · rw [Int.min_eq_left w]
                  rcases r2 with r2 | ⟨k', k1, k2, k3, k4, k5⟩
                  · exact Or.inl r2
                  · exact Or.inr ⟨k', k1, by omega, k3, k4, k5⟩
                · rw [Int.min_eq_right (by omega)]
                  exact Or.inr ⟨l.toNat, by omega, by omega, by rw [Int.toNat_of_nonneg l0], by rw [Int.toNat_of_nonneg l0]; exact hact, by rw [Int.toNat_of_nonneg l0]⟩
              · by_cases w : (k' : Int) = l
                · rw [w]; omega
                · have := r3 k' k1 (by omega) k3 k4; omega
            · rw [if_neg z, if_neg (by omega)]
              refine ⟨q1, fun w => ?_⟩
              obtain ⟨s1, s2, s3⟩ := q2 w
              refine ⟨s1, ?_, fun k' k1 k2 k3 k4 => ?_⟩
              · rcases s2 with s2 | ⟨k', k1, k2, k3, k4, k5⟩
                · exact Or.inl s2
                · exact Or.inr ⟨k', k1, by omega, k3, k4, k5⟩
              · by_cases w : (k' : Int) = l
                · rw [w] at k3; exact absurd k3.symm z
                · exact s3 k' k1 (by omega) k3 k4
        obtain ⟨s1, s2, s3⟩ := x'.slot (s := 3 * l + 2) (by omega) (by omega)
        rw [show l * 3 + 2 = 3 * l + 2 by omega]
        refine has_c ⟨by omega, s3⟩ s1 s2 (fun y hy hq => ⟨by omega, fun c2 => fin 0 ?_, fun c2 => ?_⟩)
        · unfold ownF; rw [if_neg (fun w => by have := hq.mpr w; omega)]
        · have hm : 0 < σ 11 (3 * l + 2) 0 := hq.mp (by omega)
          have b := (x.2.2.1.2.2.2.2.2.2.1 l l0 hl).1
          have tr := x.2.2.1.1
          have br := x.2.2.1.2.1
          have ur := upper_rng x.2.2.1 l0 hl (n := σ 1 l 0) (Int.le_refl _) (by omega)
          rw [(x'.2.2.2.1.2.1 l l0 hl).1]
          refine ⟨by omega, by omega, reached_F ⟨by omega, s3⟩ s1 s2 hm ⟨by rw [cur_2]; exact Int.le_refl _, by omega⟩ (by omega) (fin _ ?_)⟩
          unfold ownF; rw [if_pos hm]
  -- at first
  have first : ∀ (d : Nat) (l : Int) (h' : HP), 13 - l = d → 0 ≤ l → Fr33 L h h' → (∀ b, 0 ≤ b → b < l → h' 33 L b = if kids π b = 0 then 0 else 1000000) → wX6_weighFits_2 L (fun h13 => (∃ f56 : Nat, wX6_weighFits_47 L (fun h57 => P h57) f56 ((h13 8 1 0) - 1) h13)) (d + 1) l h' := by
    intro d
    induction d with
    | zero =>
      intro l h' hd hl f q
      rw [wX6_weighFits_2]
      refine ⟨by omega, fun _ => ?_, fun c => absurd (by omega) c⟩
      have x' := x.fr33 f
      rw [x'.2.1.1.1]
      refine ⟨_, down (π 0 0).toNat (π 0 0 - 1) h' (by omega) (by omega) f ⟨fun b b0 b1 hb => by omega, fun b hb => ?_⟩⟩
      have e := q b (by omega) (by omega)
      rw [e]
      refine ⟨fun z => by rw [if_pos z], fun z => ?_⟩
      rw [if_neg z]
      exact ⟨by omega, Or.inl rfl, fun k' k1 k2 => by omega⟩
    | succ d ih =>
      intro l h' hd hl f q
      have x' := x.fr33 f
      rw [wX6_weighFits_2]
      refine ⟨by omega, fun c => absurd c (by omega), fun _ => isLeaf_c x.1.1 x'.2.1 (by omega) (fun y hy hq => ⟨by omega, fun t6 h6 => ⟨by omega, fun h8 e8 => ?_⟩⟩)⟩
      refine ih (l + 1) h8 (by omega) (by omega) (by rw [e8]; exact f.tr Fr33.up) (fun b b0 b1 => ?_)
      rw [e8, up_ji]
      by_cases z : b = l
      · rw [if_pos z, z]
        by_cases w : kids π l = 0
        · rw [if_pos w]; exact h6.2 (by have := hq.mpr w; omega)
        · rw [if_neg w]; exact h6.1 (by rcases hy with u | u; exact u; exact absurd (hq.mp u) w)
      · rw [if_neg z]; exact q b b0 (by omega)
  exact ⟨_, first 13 0 h rfl (Int.le_refl _) (fun _ _ _ => rfl) (fun b b0 b1 => by omega)⟩
