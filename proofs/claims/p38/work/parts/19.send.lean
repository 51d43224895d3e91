theorem lstI_y {π : PL} {σ : ST} {i : Int} {m : Nat} (h : π 1 m = i ∧ 0 < hel π σ m ∧ fitA π σ m ≤ σ 0 0 0 ∧ (lstI π σ i m = -1 ∨ σ 3 m 0 < σ 3 (lstI π σ i m) 0)) : lstI π σ i (m + 1) = m := by show (if _ then _ else _) = _; rw [if_pos h]
theorem lstI_n {π : PL} {σ : ST} {i : Int} {m : Nat} (h : ¬ (π 1 m = i ∧ 0 < hel π σ m ∧ fitA π σ m ≤ σ 0 0 0 ∧ (lstI π σ i m = -1 ∨ σ 3 m 0 < σ 3 (lstI π σ i m) 0))) : lstI π σ i (m + 1) = lstI π σ i m := by show (if _ then _ else _) = _; rw [if_neg h]
theorem leastIn_none {π : PL} {σ : ST} {i : Int} (h : kids π i = 0) : leastIn π σ i = -1 := by
  rcases lstI_rng π σ i (π 0 0).toNat with q | q
  · exact q
  · have := (kidN_pos (π := π) (c := i) (π 0 0).toNat).2.2.mpr ⟨(lstI π σ i (π 0 0).toNat).toNat, by omega, by rw [Int.toNat_of_nonneg q.1]; exact q.2.2.1⟩
    unfold kids at h
    omega
theorem share_loop {h : HP} {L K i st : Int} {π : PL} {σ : ST} {Ko : Int → Prop} (x : LX h L π K σ) (hf : ∀ c, 0 ≤ c → c < π 0 0 → 0 < hel π σ c → h 33 L c = fitA π σ c) (hi : (0 ≤ i ∧ i < π 0 0) ∨ i = 12) (k : Ko (leastIn π σ i)) :
    ∀ (d m : Nat), (π 0 0).toNat - m = d → m ≤ (π 0 0).toNat → wX6_pickByShare_32 L i st h Ko ((kids π i - kidN π i m).toNat + 1) (lstI π σ i m) (kidN π i m) := by
  have n12 := x.1.1.2.1
  have kr := kids_rng x.1.1 i
  have e38 : h 38 1 i = kids π i := x.2.1.2.2.1 i (by omega)
  have tt : h 6 L 1 = σ 0 0 0 := x.2.2.2.1.1.1
  have inv := x.2.2.1
  have tr := inv.1
  have cr := inv.2.2.1
  intro d
  induction d with
  | zero =>
    intro m hd hm
    have e : m = (π 0 0).toNat := by omega
    subst e
    have e2 : kidN π i (π 0 0).toNat = kids π i := rfl
    rw [e2, show (kids π i - kids π i).toNat = 0 by omega, wX6_pickByShare_32, e38]
    exact ⟨by omega, by omega, by omega, fun _ => k, fun c => absurd (Int.le_refl _) c⟩
  | succ d ih =>
    intro m hd hm
    have hn := ih (m + 1) (by omega) (by omega)
    have m1 : (m : Int) < π 0 0 := by omega
    have kp0 := (kidN_pos (π := π) (c := i) m).1
    have kp1 := (kidN_pos (π := π) (c := i) m).2.1
    by_cases q : π 1 m = i
    · have hk := kid_at x.2.1 m1 q
      have kl := kidN_lt q m1
      obtain ⟨eh, eh0, eh1⟩ := x.held (c := m) (Or.inl ⟨by omega, m1⟩)
      have hv : h 26 L m = σ 3 m 0 := (x.2.2.2.1.2.1 m (by omega) m1).2.2.1
      have vr := (inv.2.2.2.2.2.2.1 m (by omega) m1).2.1
      have lr := lstI_rng π σ i m
      have fr := x.fit (c := m) (by omega) m1
      rw [kidN_y q, show (kids π i - kidN π i m).toNat = (kids π i - (kidN π i m + 1)).toNat + 1 by omega] at *
      have best : lstI π σ i m ≠ -1 → (0 ≤ lstI π σ i m ∧ lstI π σ i m < 12) ∧ h 26 L (lstI π σ i m) = σ 3 (lstI π σ i m) 0 ∧ (0 ≤ σ 3 (lstI π σ i m) 0 ∧ σ 3 (lstI π σ i m) 0 ≤ 6500 * σ 0 2 0) := by
        intro z
        rcases lr with w | w
        · exact absurd w z
        · exact ⟨⟨w.1, by omega⟩, (x.2.2.2.1.2.1 _ w.1 (by omega)).2.2.1, (inv.2.2.2.2.2.2.1 _ w.1 (by omega)).2.1⟩
      rw [wX6_pickByShare_32, e38, hk, eh, tt, hv]
      refine ⟨by omega, by omega, by omega, fun c => absurd c (by omega), fun _ => ⟨by omega, by omega, ⟨by omega, fun c => ⟨by omega, ?_, by omega, fun c2 => ⟨by omega, fun c3 => ?_⟩⟩⟩, fun t22 ht => ?_⟩⟩
      · rw [hf m (by omega) m1 (by omega)]; omega
      · obtain ⟨b1, b2, b3⟩ := best c3
        rw [b2]
        exact ⟨by omega, b1, by omega, by omega⟩
      · have et : t22 = lstI π σ i (m + 1) := by
          by_cases y : hel π σ m ≤ 0
          · rw [lstI_n (fun z => by omega)]; exact ht.1 y
          · have h2 := ht.2 y
            rw [hf m (by omega) m1 (by omega)] at h2
            by_cases y1 : σ 0 0 0 < fitA π σ m
            · rw [lstI_n (fun z => by omega)]; exact h2.1 y1
            · have h3 := h2.2 y1
              by_cases y2 : lstI π σ i m = -1
              · rw [lstI_y ⟨q, by omega, by omega, Or.inl y2⟩]; exact h3.1 y2
              · have h4 := h3.2 y2
                rw [(best y2).2.1] at h4
                by_cases y3 : σ 3 (lstI π σ i m) 0 ≤ σ 3 m 0
                · rw [lstI_n (fun z => by rcases z.2.2.2 with u | u <;> omega)]; exact h4.1 y3
                · rw [lstI_y ⟨q, by omega, by omega, Or.inr (by omega)⟩]; exact h4.2 y3
        rw [et]
        exact hn
    · have e := lstI_n (σ := σ) (m := m) (i := i) (fun z => q z.1)
      rw [e, kidN_n q] at hn
      exact hn
theorem pickS_c {h : HP} {L K : Int} {π : PL} {σ : ST} {P : Int → HP → Prop} (x : LX h L π K σ) (k : ∀ h', Fr33 L h h' → P (byShareA π σ) h') : wX6_pickByShare L h P := by
  have n12 := x.1.1.2.1
  unfold wX6_pickByShare
  refine fits_c x (fun h1 f1 hf => ?_)
  have x1 := x.fr33 f1
  have kk := k h1 f1
  -- from a class (or the link) on
  have down : ∀ (d : Nat) (i st : Int), 13 - st = d → (i = 12 ∧ st = 0 ∨ (0 ≤ i ∧ i < π 0 0 ∧ 1 ≤ st ∧ st ≤ i + 1)) → (i ≠ 12 → bsF π σ d i = byShareA π σ) →
      wX6_pickByShare_9 L h1 (fun l40 => (-2147483648 ≤ l40 ∧ l40 < 2147483648) ∧ ∀ t42 : Int, ((¬ l40 = 12 → t42 = l40) ∧ (l40 = 12 → t42 = (-1))) → P t42 h1) (P (-1) h1) (d + 1) i st := by
    intro d
    induction d with
    | zero => intro i st hd hi hb; omega
    | succ d ih =>
      intro i st hd hi hb
      have kr := kids_rng x.1.1 i
      have e38 : h1 38 1 i = kids π i := x1.2.1.2.2.1 i (by omega)
      rw [wX6_pickByShare_9, e38]
      refine ⟨by omega, fun c => by omega, fun _ => ⟨by omega, by omega, fun c => ⟨by omega, fun t42 h42 => ?_⟩, fun c => ⟨(kids π i - kidN π i 0).toNat + 1, ?_⟩⟩⟩
      · by_cases z : i = 12
        · rw [h42.2 z]
          have e : byShareA π σ = -1 := by
            unfold byShareA
            rw [leastIn_none (by rw [← z]; omega)]
            unfold bsF
            rw [if_pos (Or.inl rfl)]
          rw [← e]; exact kk
        · rw [h42.1 z]
          have e := hb z
          unfold bsF at e
          rw [if_pos (Or.inr (by omega))] at e
          rw [e]; exact kk
      · have lr := lstI_rng π σ i (π 0 0).toNat
        have e0 : kidN π i 0 = 0 := rfl
        refine share_loop x1 hf (by omega) ?_ _ 0 rfl (by omega)
        have el : leastIn π σ i = lstI π σ i (π 0 0).toNat := rfl
        have e : leastIn π σ i ≠ -1 → bsF π σ d (leastIn π σ i) = byShareA π σ := by
          intro w
          by_cases z : i = 12
          · have : d = 12 := by omega
            subst this
            subst z
            -- fuel 12 is enough where 13 is
            rcases lr with r | r
            · exact absurd r w
            · have fuel : ∀ (f : Nat) (c : Int), (c = -1 ∨ (0 ≤ c ∧ c < π 0 0)) → π 0 0 - c ≤ f ∨ c = -1 → bsF π σ f c = bsF π σ (f + 1) c := by
                intro f
                induction f with
                | zero =>
                  intro c hc hf'
                  have : c = -1 := by omega
                  subst this
                  unfold bsF; rw [if_pos (Or.inl rfl)]
                | succ f ihf =>
                  intro c hc hf'
                  show (if c = -1 ∨ kids π c = 0 then c else bsF π σ f (leastIn π σ c)) = (if c = -1 ∨ kids π c = 0 then c else bsF π σ (f + 1) (leastIn π σ c))
                  by_cases y : c = -1 ∨ kids π c = 0
                  · rw [if_pos y, if_pos y]
                  · rw [if_neg y, if_neg y]
                    have er : leastIn π σ c = lstI π σ c (π 0 0).toNat := rfl
                    rcases lstI_rng π σ c (π 0 0).toNat with u | u
                    · exact ihf _ (Or.inl u) (Or.inr u)
                    · refine ihf _ (Or.inr ⟨u.1, by rw [er]; omega⟩) (Or.inl ?_)
                      rcases x.1.1.2.2 _ u.1 (by omega) with v | v
                      · rw [u.2.2.1] at v; omega
                      · rw [u.2.2.1] at v; rw [er]; omega
              have := fuel 12 (leastIn π σ 12) (Or.inr ⟨by omega, by omega⟩) (Or.inl (by omega))
              unfold byShareA
              rw [this]
          · have e := hb z
            rw [← e]
            show _ = (if i = -1 ∨ kids π i = 0 then i else bsF π σ d (leastIn π σ i))
            rw [if_neg (by omega)]
        refine ⟨by omega, fun c2 => ?_, fun c2 => ?_⟩
        · rcases lr with r | r
          · exact absurd r c2
          · refine ih (leastIn π σ i) (st + 1) (by omega) (Or.inr ⟨by omega, by omega, by omega, ?_⟩) (fun _ => e c2)
            rcases x.1.1.2.2 _ r.1 (by omega) with v | v
            · rw [r.2.2.1] at v; omega
            · rw [r.2.2.1] at v; omega
        · have : byShareA π σ = -1 := by
            by_cases z : i = 12
            · subst z
              unfold byShareA
              rw [c2]
              unfold bsF
              rw [if_pos (Or.inl rfl)]
            · have e := hb z
              rw [← e]
              show (if i = -1 ∨ kids π i = 0 then i else bsF π σ d (leastIn π σ i)) = -1
              rw [if_neg (by omega), c2]
              cases d with
              | zero => rfl
              | succ d => unfold bsF; rw [if_pos (Or.inl rfl)]
          rw [← this]
          exact kk
  exact ⟨_, down 13 12 0 rfl (Or.inl ⟨rfl, rfl⟩) (fun z => absurd rfl z)⟩
theorem CurveC.sent {h h' : HP} {L : Int} {σ τ : ST} (g : ∀ k, 13 ≤ k → k ≤ 19 → h' k L = h k L) (e9 : τ 9 = σ 9) (e10 : τ 10 = σ 10) (e11 : τ 11 = σ 11) (e12 : τ 12 = σ 12) (e13 : τ 13 = σ 13) {s : Int} (hc : cur σ s ≤ cur τ s) (q : CurveC h L s σ) : CurveC h' L s τ :=
  q.move ⟨⟨by rw [g 13 (by omega) (by omega)], by rw [g 14 (by omega) (by omega)], by rw [g 15 (by omega) (by omega)], by rw [g 16 (by omega) (by omega)], by rw [g 17 (by omega) (by omega)]⟩, fun i _ _ => ⟨by rw [g 18 (by omega) (by omega)], by rw [g 19 (by omega) (by omega)]⟩⟩ (by rw [e9]) (by rw [e10]) (by rw [e11]) (by rw [e12]) (by rw [e13]) hc
theorem LineD.sen {h : HP} {L a z : Int} {π : PL} {τ : ST} (q : LineD h L π τ) (a0 : 0 ≤ a) (a1 : a < π 0 0) (hz : 0 ≤ z) : LineD (up h 24 L a (h 24 L a + z)) L π (up τ 1 a 0 (τ 1 a 0 + z)) := by
  obtain ⟨q1, q2, q3, q4, q5⟩ := q
  have g : ∀ k, k ≠ 24 → (up h 24 L a (h 24 L a + z)) k = h k := fun k k1 => up_k k1
  have g' : ∀ k, k ≠ 1 → (up τ 1 a 0 (τ 1 a 0 + z)) k = τ k := fun k k1 => up_k k1
  unfold LineD QueC
  rw [g 6 (by decide), g 25 (by decide), g 26 (by decide), g 27 (by decide), g 28 (by decide), g 30 (by decide), g 31 (by decide), g 32 (by decide)]
  rw [g' 0 (by decide), g' 2 (by decide), g' 3 (by decide), g' 4 (by decide), g' 5 (by decide), g' 7 (by decide), g' 8 (by decide)]
  refine ⟨q1, fun b b0 b1 => ?_, q3, q4, fun t t0 t1 => (q5 t t0 t1).sent (fun k k0 k1 => by rw [g k (by omega)]) (g' 9 (by decide)) (g' 10 (by decide)) (g' 11 (by decide)) (g' 12 (by decide)) (g' 13 (by decide)) ?_⟩
  · obtain ⟨d1, d2⟩ := q2 b b0 b1
    refine ⟨?_, d2⟩
    by_cases y : b = a
    · subst y; rw [up_eq, up_eq, d1]
    · rw [up_j y, up_i y]; exact d1
  · unfold cur
    rw [g' 2 (by decide)]
    split
    · exact Int.le_refl _
    · by_cases y : t / 3 = a
      · rw [y, up_eq]; omega
      · rw [up_i y]; exact Int.le_refl _
theorem LineD.gra {h : HP} {L a z : Int} {π : PL} {τ : ST} (q : LineD h L π τ) (a0 : 0 ≤ a) (a1 : a < π 0 0) (hz : 0 ≤ z) : LineD (up h 25 L a (h 25 L a + z)) L π (up τ 2 a 0 (τ 2 a 0 + z)) := by
  obtain ⟨q1, q2, q3, q4, q5⟩ := q
  have g : ∀ k, k ≠ 25 → (up h 25 L a (h 25 L a + z)) k = h k := fun k k1 => up_k k1
  have g' : ∀ k, k ≠ 2 → (up τ 2 a 0 (τ 2 a 0 + z)) k = τ k := fun k k1 => up_k k1
  unfold LineD QueC
  rw [g 6 (by decide), g 24 (by decide), g 26 (by decide), g 27 (by decide), g 28 (by decide), g 30 (by decide), g 31 (by decide), g 32 (by decide)]
  rw [g' 0 (by decide), g' 1 (by decide), g' 3 (by decide), g' 4 (by decide), g' 5 (by decide), g' 7 (by decide), g' 8 (by decide)]
  refine ⟨q1, fun b b0 b1 => ?_, q3, q4, fun t t0 t1 => (q5 t t0 t1).sent (fun k k0 k1 => by rw [g k (by omega)]) (g' 9 (by decide)) (g' 10 (by decide)) (g' 11 (by decide)) (g' 12 (by decide)) (g' 13 (by decide)) ?_⟩
  · obtain ⟨d1, d2, d3⟩ := q2 b b0 b1
    refine ⟨d1, ?_, d3⟩
    by_cases y : b = a
    · subst y; rw [up_eq, up_eq, d2]
    · rw [up_j y, up_i y]; exact d2
  · unfold cur
    rw [g' 1 (by decide)]
    split
    · by_cases y : t / 3 = a
      · rw [y, up_eq]; omega
      · rw [up_i y]; exact Int.le_refl _
    · exact Int.le_refl _
/-- a number of the line's own -/
theorem LineD.num {h : HP} {L v : Int} {π : PL} {τ : ST} (q : LineD h L π τ) (i : Int) (hi : 0 ≤ i ∧ i ≤ 5) : LineD (up h 6 L (i + 1) v) L π (up τ 0 i 0 v) := by
  obtain ⟨⟨r0, r1, r2, r3, r4, r5⟩, q2, q3, q4, q5⟩ := q
  have g : ∀ k, k ≠ 6 → (up h 6 L (i + 1) v) k = h k := fun k k1 => up_k k1
  have g' : ∀ k, k ≠ 0 → (up τ 0 i 0 v) k = τ k := fun k k1 => up_k k1
  unfold LineD QueC
  rw [g 24 (by decide), g 25 (by decide), g 26 (by decide), g 27 (by decide), g 28 (by decide), g 30 (by decide), g 31 (by decide), g 32 (by decide)]
  rw [g' 1 (by decide), g' 2 (by decide), g' 3 (by decide), g' 4 (by decide), g' 5 (by decide), g' 7 (by decide), g' 8 (by decide)]
  have one : ∀ j : Int, h 6 L (j + 1) = τ 0 j 0 → (up h 6 L (i + 1) v) 6 L (j + 1) = (up τ 0 i 0 v) 0 j 0 := by
    intro j hj
    by_cases y : j = i
    · subst y; rw [up_eq, up_eq]
    · rw [up_j (by omega), up_i y]; exact hj
  refine ⟨⟨one 0 r0, one 1 r1, one 2 r2, one 3 r3, one 4 r4, one 5 r5⟩, q2, q3, q4, fun t t0 t1 => (q5 t t0 t1).sent (fun k k0 k1 => by rw [g k (by omega)]) (g' 9 (by decide)) (g' 10 (by decide)) (g' 11 (by decide)) (g' 12 (by decide)) (g' 13 (by decide)) ?_⟩
  rw [cur_eq (g' 1 (by decide)) (g' 2 (by decide))]; exact Int.le_refl _
theorem LineD.pop {h : HP} {L l v : Int} {π : PL} {τ : ST} (q : LineD h L π τ) (hv : v = (h 31 L l + 1) % 20) : LineD (up h 31 L l v) L π (popA τ l) := by
  subst hv
  obtain ⟨q1, q2, q3, q4, q5⟩ := q
  have g : ∀ k, k ≠ 31 → (up h 31 L l ((h 31 L l + 1) % 20)) k = h k := fun k k1 => up_k k1
  unfold LineD QueC
  rw [g 6 (by decide), g 24 (by decide), g 25 (by decide), g 26 (by decide), g 27 (by decide), g 28 (by decide), g 30 (by decide), g 32 (by decide)]
  rw [popA_k (k := 0) (by decide) (by decide), popA_k (k := 1) (by decide) (by decide), popA_k (k := 2) (by decide) (by decide), popA_k (k := 3) (by decide) (by decide), popA_k (k := 4) (by decide) (by decide), popA_k (k := 5) (by decide) (by decide), popA_k (k := 8) (by decide) (by decide)]
  refine ⟨q1, fun b b0 b1 => ?_, q3, q4, fun t t0 t1 => (q5 t t0 t1).sent (fun k k0 k1 => by rw [g k (by omega)]) (popA_k (by decide) (by decide)) (popA_k (by decide) (by decide)) (popA_k (by decide) (by decide)) (popA_k (by decide) (by decide)) (popA_k (by decide) (by decide)) ?_⟩
  · obtain ⟨d1, d2, d3, d4, d5, d6⟩ := q2 b b0 b1
    refine ⟨d1, d2, d3, d4, ?_⟩
    by_cases y : b = l
    · subst y
      rw [up_eq, popA_7]
      refine ⟨by omega, fun i i0 i1 => ?_⟩
      show _ = τ 7 b ((i + 1) % 20)
      rw [← d6 ((i + 1) % 20) (by omega) (by omega)]
      congr 2
      omega
    · rw [up_j y, popA_7o y]
      exact ⟨d5, d6⟩
  · rw [cur_eq (popA_k (by decide) (by decide)) (popA_k (by decide) (by decide))]; exact Int.le_refl _
/-- how many wait while the class goes up from l and stands at a, one less -/
noncomputable def wSn (π : PL) (σ : ST) (z l a b : Int) : Int := hel π σ b - @ite Int (inCh π l b ∧ ¬ inCh π a b) (Classical.propDecidable _) z 0
theorem wSn_y {π : PL} {σ : ST} {z l a b : Int} (h : inCh π l b ∧ ¬ inCh π a b) : wSn π σ z l a b = hel π σ b - z := by unfold wSn; rw [if_pos h]
theorem wSn_n {π : PL} {σ : ST} {z l a b : Int} (h : ¬ (inCh π l b ∧ ¬ inCh π a b)) : wSn π σ z l a b = hel π σ b := by unfold wSn; rw [if_neg h]; omega
theorem wSn_step {π : PL} {σ : ST} {z l a b : Int} (ht : treeOK π) (a0 : 0 ≤ a) (a1 : a < π 0 0) (hla : inCh π l a) : wSn π σ z l (π 1 a) b = if b = a then wSn π σ z l a a - z else wSn π σ z l a b := by
  have n12 := ht.2.1
  by_cases q : b = a
  · subst q
    rw [if_pos rfl, wSn_y ⟨hla, inCh_not_up ht a0 a1⟩, wSn_n (fun u => u.2 (inCh_rf _ _))]
  · rw [if_neg q]
    by_cases y : inCh π l b ∧ ¬ inCh π a b
    · rw [wSn_y y, wSn_y ⟨y.1, fun u => y.2 ((inCh_iff (by omega)).mpr (Or.inr u))⟩]
    · rw [wSn_n y, wSn_n (fun u => y ⟨u.1, fun v => by
        rcases (inCh_iff (by omega)).mp v with w | w
        · exact q w.symm
        · exact u.2 w⟩)]
theorem send_climb {L l g z K : Int} {π : PL} {σ τ0 : ST} {Ko : HP → Prop} (hp : PlanOK π) (inv : AInv π K σ) (hz : 0 ≤ z ∧ z ≤ 64) (l0 : 0 ≤ l) (l1 : l < π 0 0) {h0 : HP} (pc0 : PlanC h0 1 π)
    (hK : ∀ h τ, FrL L h0 h → LineD h L π τ → HeldC h L π (wSn π σ 1 l 12) → τ = climbS π z 13 τ0 l → Ko h) :
    ∀ (d : Nat) (a st : Int) (h : HP) (τ : ST), 12 - st = d → 0 ≤ st → (a = 12 ∨ (0 ≤ a ∧ a < π 0 0 ∧ a + st ≤ 11)) → inCh π l a → FrL L h0 h → LineD h L π τ → HeldC h L π (wSn π σ 1 l a) →
      (∀ k, 8 ≤ k → τ k = σ k) → (∀ b, 0 ≤ b → b < π 0 0 → inCh π a b → τ 1 b = σ 1 b) → (∀ b, (0 ≤ b ∧ b < π 0 0) ∨ b = 12 → 0 ≤ τ 4 b 0 ∧ τ 4 b 0 ≤ 6500 * (σ 0 2 0 + 1)) → climbS π z (d + 1) τ a = climbS π z 13 τ0 l →
      wX6_send_72 L l g z Ko (d + 1) a st h := by
  have n12 := hp.1.2.1
  have cr := inv.2.2.1
  have tr := inv.1
  have br := inv.2.1
  intro d
  induction d with
  | zero =>
    intro a st h τ hd hst ha hla fr ld hc e8 e1 e4 hcl
    have ea : a = 12 := by omega
    subst ea
    have e : climbS π z (0 + 1) τ 12 = τ := by unfold climbS; rw [if_pos rfl]
    rw [wX6_send_72]
    exact ⟨by omega, fun _ => hK h τ fr ld hc (by rw [← e]; exact hcl), fun c => absurd (by omega) c⟩
  | succ d ih =>
    intro a st h τ hd hst ha hla fr ld hc e8 e1 e4 hcl
    rw [wX6_send_72]
    refine ⟨by omega, fun c => absurd c (by omega), fun _ => ⟨by omega, fun c => ?_, fun c => ?_⟩⟩
    · subst c
      have e : climbS π z (d + 1 + 1) τ 12 = τ := by unfold climbS; rw [if_pos rfl]
      exact hK h τ fr ld hc (by rw [← e]; exact hcl)
    · have a0 : 0 ≤ a := by omega
      have a1 : a < π 0 0 := by omega
      have pc : PlanC h 1 π := pc0.fr fr
      have e37 : h 37 1 a = π 1 a := (pc.2.1 a a0 a1).1
      have pa : π 1 a = 12 ∨ (0 ≤ π 1 a ∧ π 1 a < π 0 0 ∧ π 1 a + (st + 1) ≤ 11) := by
        rcases hp.1.2.2 a a0 a1 with q | q
        · exact Or.inl q
        · exact Or.inr ⟨q.1, by omega, by omega⟩
      have lpa : inCh π l (π 1 a) := by
        obtain ⟨j, hj⟩ := hla
        exact inCh_tr j hj ((inCh_iff c).mpr (Or.inr (inCh_rf _ _)))
      have ecl : climbS π z (d + 1 + 1) τ a = climbS π z (d + 1) (stepS π z τ a) (π 1 a) := by
        show (if a = 12 then _ else _) = _
        rw [if_neg c]
      rw [ecl] at hcl
      rw [e37]
      have cls := inv.2.2.2.2.2.2.1 a a0 a1
      have cls1 := cls.1
      have cls2 := cls.2.1
      have so := inv.2.2.2.2.2.2.2.2.2 (3 * a + 1) (by omega) (by omega)
      have ea1 : τ 1 a 0 = σ 1 a 0 := by rw [e1 a a0 a1 (inCh_rf _ _)]
      -- the value
      have vB : 0 ≤ σ 12 (3 * a + 1) (σ 1 a 0 + z) ∧ σ 12 (3 * a + 1) (σ 1 a 0 + z) ≤ σ 3 a 0 + 6431 := by
        have o := so.2.1
        rw [cur_1] at o
        have o1 := o (σ 1 a 0) (Int.le_refl _)
        have o2 := o1.2 z hz.1
        have := cls.2.2.2.2.2.2.2.2
        omega
      refine ⟨by omega, by omega, by omega, fun h25 e25 => ⟨by omega, by omega, fun h28 e28 => ⟨by omega, by omega, ?_⟩⟩⟩
      have ld25 : LineD h25 L π τ := by rw [e25]; exact ld.frH
      have ld28 : LineD h28 L π (up τ 1 a 0 (τ 1 a 0 + z)) := by rw [e28]; exact ld25.sen a0 a1 hz.1
      have h24 : h28 24 L a = σ 1 a 0 + z := by rw [(ld28.2.1 a a0 a1).1, up_eq, ea1]
      have u : ∀ k, 8 ≤ k → (up τ 1 a 0 (τ 1 a 0 + z)) k = σ k := fun k hk => by rw [up_k (by omega)]; exact e8 k hk
      have q28 := ld28.2.2.2.2 (3 * a + 1) (by omega) (by omega)
      have c28 : cur (up τ 1 a 0 (τ 1 a 0 + z)) (3 * a + 1) = σ 1 a 0 + z := by rw [cur_1, up_eq, ea1]
      have so28 : slotOK (up τ 1 a 0 (τ 1 a 0 + z)) (3 * a + 1) := by
        unfold slotOK
        rw [u 11 (by omega), u 9 (by omega), u 10 (by omega), u 12 (by omega), u 13 (by omega), c28]
        obtain ⟨o1, o2, o3, o4⟩ := so
        rw [cur_1] at o2 o3
        exact ⟨o1, o2.mono (by omega), o3.mono (by omega), fun w => by omega⟩
      rw [show a * 3 + 1 = 3 * a + 1 by omega, h24]
      refine reached_F (σ := up τ 1 a 0 (τ 1 a 0 + z)) (by omega) q28 so28 (by rw [u 11 (by omega)]; exact cls.2.2.2.2.2.2.1) ⟨by rw [c28]; exact Int.le_refl _, by omega⟩ (by rw [u 12 (by omega)]; omega) ?_
      rw [u 12 (by omega)]
      refine ⟨by omega, fun h34 e34 => ⟨by omega, by omega, ?_⟩⟩
      have x27 : h34 27 L (π 1 a) = τ 4 (π 1 a) 0 := by rw [e34, up_k (by decide), ld28.2.2.1 (π 1 a) (by omega), up_k (by decide)]
      have x26 : h34 26 L a = σ 12 (3 * a + 1) (σ 1 a 0 + z) := by rw [e34, up_eq]
      have p4 := e4 (π 1 a) (by omega)
      rw [x27, x26]
      refine ⟨⟨by omega, by omega, fun _ => by omega, fun _ => by omega⟩, fun t42 h42 => ⟨by omega, fun h44 e44 => ?_⟩⟩
      have e42 : t42 = max ((up τ 1 a 0 (τ 1 a 0 + z)) 4 (π 1 a) 0) (σ 12 (3 * a + 1) (σ 1 a 0 + z)) := by
        rw [up_k (by decide)]
        by_cases w : σ 12 (3 * a + 1) (σ 1 a 0 + z) ≤ τ 4 (π 1 a) 0
        · rw [h42.1 w]; omega
        · rw [h42.2 w]; omega
      have eS : stepS π z τ a = virA π (up τ 1 a 0 (τ 1 a 0 + z)) a (σ 12 (3 * a + 1) (σ 1 a 0 + z)) := by unfold stepS; rw [e8 12 (by omega), ea1]
      have ld44 : LineD h44 L π (stepS π z τ a) := by rw [eS]; exact ld28.vir hp.1 a0 a1 e34 e42 e44
      have f44 : FrL L h0 h44 := by
        rw [e44, e34, e28, e25]
        exact ((((fr.tr (FrL.up (by unfold lnK; omega))).tr (FrL.up (by unfold lnK; omega))).tr (FrL.up (by unfold lnK; omega))).tr (FrL.up (by unfold lnK; omega)))
      refine ih (π 1 a) (st + 1) h44 (stepS π z τ a) (by omega) (by omega) pa lpa f44 ld44 (fun b hb => ?_) (fun k hk => ?_) (fun b b0 b1 hb => ?_) (fun b hb => ?_) hcl
      · have : h44 29 L b = h25 29 L b := by rw [e44, up_k (by decide), e34, up_k (by decide), e28, up_k (by decide)]
        rw [this, e25, up_ji, wSn_step hp.1 a0 a1 hla]
        by_cases w : b = a
        · rw [if_pos w, if_pos w, hc a (Or.inl ⟨a0, a1⟩)]
        · rw [if_neg w, if_neg w, hc b hb]
      · rw [eS, virA_k (by omega) (by omega)]; exact u k hk
      · have w : b ≠ a := fun w => inCh_not_up hp.1 a0 a1 (by rw [w] at hb; exact hb)
        rw [eS, virA_k (by decide) (by decide), up_i w]
        exact e1 b b0 b1 ((inCh_iff c).mpr (Or.inr hb))
      · have := e4 b hb
        have c3 := cls.2.1
        by_cases w : b = π 1 a
        · rw [w, eS, virA_4, up_k (by decide)]; omega
        · rw [eS, virA_4o w, up_k (by decide)]; exact this
theorem send_c {h : HP} {L l g K : Int} {π : PL} {σ : ST} {P : HP → Prop} (x : LX h L π K σ) (l0 : 0 ≤ l) (l1 : l < π 0 0) (hq : 0 < σ 6 l 0) (hg : g = 0 ∨ g = 1) (k : ∀ h', FrL L h h' → LineC h' L π (sendA π σ l g) → P h') : wX6_send L l g h P := by
  have n12 := x.1.1.2.1
  obtain ⟨hp, pc, inv, ld, hc⟩ := id x
  have cls := inv.2.2.2.2.2.2.1 l l0 l1
  have hz := cls.2.2.2.2.2.1 0 (Int.le_refl _) hq
  have cr := inv.2.2.1
  unfold wX6_send
  refine ⟨by omega, fun _ => sizeOf_c x l0 l1 (by omega) ⟨by omega, by omega, fun t7 h7 => ⟨by omega, fun h9 e9 => ⟨by omega, fun t12 h12 => fun h14 e14 => ⟨by omega, ?_⟩⟩⟩⟩, fun c => absurd c (by omega)⟩
  have e7 : t7 = g * σ 7 l 0 := by
    rcases hg with w | w
    · rw [h7.1 w, w, Int.zero_mul]
    · rw [h7.2 (by omega), w, Int.one_mul]
  have e12 : t12 = g := by
    rcases hg with w | w
    · rw [h12.1 w, w]
    · rw [h12.2 (by omega), w]
  have t70 : 0 ≤ t7 := by rw [e7]; rcases hg with w | w <;> rw [w] <;> omega
  have ld9 : LineD h9 L π (up σ 2 l 0 (σ 2 l 0 + t7)) := by rw [e9]; exact ld.gra l0 l1 t70
  have x4 : h9 6 L 4 = σ 0 3 0 := by rw [ld9.1.2.2.2.1, up_k (by decide)]
  have ld14 : LineD h14 L π (up (up σ 2 l 0 (σ 2 l 0 + t7)) 0 3 0 (σ 0 3 0 + g)) := by
    rw [e14, x4, e12]
    exact ld9.num 3 (by omega)
  have r31 := (ld14.2.1 l l0 l1).2.2.2.2.1
  refine ⟨by omega, by omega, fun h17 e17 => ⟨13, ?_⟩⟩
  have ld17 : LineD h17 L π (popA (up (up σ 2 l 0 (σ 2 l 0 + t7)) 0 3 0 (σ 0 3 0 + g)) l) := by rw [e17]; exact ld14.pop rfl
  have eT : popA (up (up σ 2 l 0 (σ 2 l 0 + t7)) 0 3 0 (σ 0 3 0 + g)) l = up (up (popA σ l) 2 l 0 (σ 2 l 0 + g * σ 7 l 0)) 0 3 0 (σ 0 3 0 + g) := by
    rw [e7]
    funext k i j
    by_cases k0 : k = 0
    · subst k0; simp [popA, up, upr]
    · by_cases k2 : k = 2
      · subst k2; simp [popA, up, upr]
      · simp [popA, up, upr, k0, k2]
  have f17 : FrL L h h17 := by
    rw [e17, e14, e9]
    exact ((FrL.up (by unfold lnK; omega)).tr (FrL.up (by unfold lnK; omega))).tr (FrL.up (by unfold lnK; omega))
  have h29 : h17 29 L = h 29 L := by rw [e17, up_k (by decide), e14, up_k (by decide), e9, up_k (by decide)]
  rw [eT] at ld17
  have t8 : ∀ k, 8 ≤ k → (up (up (popA σ l) 2 l 0 (σ 2 l 0 + g * σ 7 l 0)) 0 3 0 (σ 0 3 0 + g)) k = σ k := fun k hk => by rw [up_k (by omega), up_k (by omega), popA_k (by omega) (by omega)]
  refine send_climb (g := g) (z := σ 7 l 0) (h0 := h17) (τ0 := up (up (popA σ l) 2 l 0 (σ 2 l 0 + g * σ 7 l 0)) 0 3 0 (σ 0 3 0 + g)) hp inv (by omega) l0 l1 (pc.fr f17) (fun h' τ fr ld' hc' eτ => ?_) 12 l 0 h17 _ rfl (Int.le_refl _) (Or.inr ⟨l0, l1, by omega⟩) (inCh_rf _ _) (FrL.rf _ _) ld17 (fun b hb => ?_) t8 (fun b b0 b1 hb => ?_) (fun b hb => ?_) rfl
  · intro h54 e54 h55 e55 h56 e56 h57 e57
    have ld54 : LineD h54 L π τ := by rw [e54]; exact ld'.frH
    have et : τ 0 2 0 = σ 0 2 0 := by
      rw [eτ, (climbS_all hp.1 13 (Or.inr ⟨l0, l1, by omega⟩)).1 0 (by decide) (by decide) (by decide), up_i (by decide), up_k (by decide), popA_k (by decide) (by decide)]
    have ld55 : LineD h55 L π (up τ 0 2 0 (σ 0 2 0 + 1)) := by
      rw [e55, ld54.1.2.2.1, et]
      exact ld54.num 2 (by omega)
    have ld56 : LineD h56 L π (up (up τ 0 2 0 (σ 0 2 0 + 1)) 0 4 0 l) := by rw [e56]; exact ld55.num 4 (by omega)
    have ld57 : LineD h57 L π (up (up (up τ 0 2 0 (σ 0 2 0 + 1)) 0 4 0 l) 0 1 0 (σ 7 l 0)) := by rw [e57]; exact ld56.num 1 (by omega)
    have es : up (up (up τ 0 2 0 (σ 0 2 0 + 1)) 0 4 0 l) 0 1 0 (σ 7 l 0) = sendA π σ l g := by rw [eτ]; rfl
    rw [es] at ld57
    have f57 : FrL L h h57 := by
      rw [e57, e56, e55, e54]
      exact ((((f17.tr fr).tr (FrL.up (by unfold lnK; omega))).tr (FrL.up (by unfold lnK; omega))).tr (FrL.up (by unfold lnK; omega))).tr (FrL.up (by unfold lnK; omega))
    refine k h57 f57 ⟨ld57, fun b hb => ?_⟩
    have q29 : h57 29 L b = h54 29 L b := by rw [e57, up_k (by decide), e56, up_k (by decide), e55, up_k (by decide)]
    have q6 := (sendA_all (σ := σ) (g := g) hp.1 l0 l1).2.2.1.1
    have hh : hel π (sendA π σ l g) b = hel π (popA σ l) b := hel_same q6
    have ho := hel_one (π := π) (σ := σ) (τ := popA σ l) (b := b) (l := l) (δ := -1) l0 l1 (fun b _ _ hb => by rw [popA_6o hb]) (by rw [popA_6]; omega)
    rw [hh, q29, e54, up_ji]
    by_cases w : b = 12
    · subst w
      rw [if_pos rfl, hc' 12 (Or.inr rfl), wSn_n (fun u => u.2 (inCh_rf _ _)), ho.1 (inCh_all hp.1 l0 l1)]; omega
    · rw [if_neg w, hc' b hb]
      by_cases y : inCh π l b
      · rw [wSn_y ⟨y, fun u => w (inCh_12.mp u)⟩, ho.1 y]; omega
      · rw [wSn_n (fun u => y u.1), ho.2 y]
  · rw [h29, hc b hb, wSn_n (fun u => u.2 u.1)]
  · rw [up_k (by decide), up_k (by decide), popA_k (by decide) (by decide)]
  · have := inv.2.2.2.2.2.2.2.1 b hb
    rw [up_k (by decide), up_k (by decide), popA_k (by decide) (by decide)]
    omega
