/-! the reference: where curves reach; laying -/
theorem up_r {a b : Int} {h : HP} {P : Int → HP → Prop} (ha : 0 ≤ a ∧ a ≤ 2000000000) (hb : 0 < b ∧ b ≤ 100) (k : P (rUp a b) h) : wX12_up a b h P := by
  unfold wX12_up
  exact ⟨by omega, by omega, k⟩
theorem reach_r {m1 d m2 x y n : Int} {h : HP} {P : Int → HP → Prop} (h1 : 0 ≤ m1 ∧ m1 ≤ 100) (h2 : 0 ≤ d ∧ d ≤ 30) (h3 : 1 ≤ m2 ∧ m2 ≤ 100) (hy : 0 ≤ y ∧ y ≤ 20000) (hn : 0 ≤ n ∧ n ≤ 20000) (k : P (reachA m1 d m2 x y n) h) : wX12_reach m1 d m2 x y n h P := by
  have hm := mul_rng (a := m1) (b := d) (A := 100) (B := 30) h1.1 h1.2 (by omega) h2.2 (by omega)
  have hm0 := Int.mul_nonneg h1.1 h2.1
  unfold wX12_reach
  refine ⟨by omega, by omega, fun c => ⟨by omega, by omega, fun c2 => up_r (by omega) (by omega) ?_, fun c2 => up_r (by omega) ?_ ?_⟩, fun c => ?_⟩
  · rw [reachA_two (by omega) (by omega)] at k; exact k
  · have := m1_pos (m1 := m1) (d := d) (p := 100 * (n - y)) h1.1 (by omega) (by omega); omega
  · rw [reachA_one (by omega) (by omega)] at k; exact k
  · rw [reachA_le (by omega)] at k; exact k
theorem reachAll_g {h : HP} {c k n a v : Int} {π : PL} {σ : ST} {P : Int → HP → Prop} (hc : 0 ≤ c ∧ c < 12) (hk : 0 ≤ k ∧ k ≤ 2) (q : CurveR (h 56 7) c k σ) (o : slotOK σ (3 * c + k)) (hm : 0 < σ 11 (3 * c + k) 0) (ha : 0 ≤ a ∧ a ≤ 100) (hn : cur σ (3 * c + k) ≤ n ∧ n ≤ 20000) (hn0 : 0 ≤ cur σ (3 * c + k))
    (hv : IsMax (h 56 7 (257 * c + 38 + 73 * k)) (fun i => reachA a (σ 10 (3 * c + k) 0) (σ 11 (3 * c + k) 0) (h 56 7 (257 * c + 38 + 73 * k + 1 + 2 * i)) (h 56 7 (257 * c + 38 + 73 * k + 2 + 2 * i)) n) v) (hv2 : v < 2147483648) (kk : P v h) : wX12_reachAll 7 c k n a h P := by
  obtain ⟨b1, b2, b3, a1, a2, a3, a4, a5, a6⟩ := q
  obtain ⟨e1, e2, e3⟩ := b2 hm
  have w := o.1.2 hm
  unfold wellC at w
  unfold wX12_reachAll wX12_curveAt wX12_laidAt
  have key : ∀ (d : Nat) (i m : Int), h 56 7 (257 * c + 38 + 73 * k) - i = d → 0 ≤ i → IsMax i (fun i => reachA a (σ 10 (3 * c + k) 0) (σ 11 (3 * c + k) 0) (h 56 7 (257 * c + 38 + 73 * k + 1 + 2 * i)) (h 56 7 (257 * c + 38 + 73 * k + 2 + 2 * i)) n) m → wX12_reachAll_20 7 c k n a (257 * c + 4 * k) (257 * c + 38 + 73 * k) (fun l18 h19 => P l18 h19) (d + 1) m i h := by
    intro d
    induction d with
    | zero =>
      intro i m hd hi hmx
      rw [wX12_reachAll_20]
      have : i = h 56 7 (257 * c + 38 + 73 * k) := by omega
      subst this
      rw [hmx.uniq hv]
      exact ⟨by omega, by omega, by omega, fun _ => kk, fun z => absurd (Int.le_refl _) z⟩
    | succ d ih =>
      intro i m hd hi hmx
      have e := a2 i hi (by omega)
      have hf := ih (i + 1) _ (by omega) (by omega) (hmx.step hi)
      have fi : reachA a (σ 10 (3 * c + k) 0) (σ 11 (3 * c + k) 0) (h 56 7 (257 * c + 38 + 73 * k + 1 + 2 * i)) (h 56 7 (257 * c + 38 + 73 * k + 2 + 2 * i)) n ≤ v := hv.2.1 i hi (by omega)
      have fx := reachA_x (m1 := a) (d := σ 10 (3 * c + k) 0) (m2 := σ 11 (3 * c + k) 0) (x := h 56 7 (257 * c + 38 + 73 * k + 1 + 2 * i)) (y := h 56 7 (257 * c + 38 + 73 * k + 2 + 2 * i)) (n := n) (by omega) (by omega) (by omega)
      have mv : m ≤ v := by
        rcases hmx.2.2 with z | ⟨j, j0, j1, j2⟩
        · have := hv.1; omega
        · have := hv.2.1 j j0 (by omega); omega
      have m0 := hmx.1
      rw [wX12_reachAll_20, e2, e3]
      refine ⟨by omega, by omega, by omega, fun z => absurd z (by omega), fun _ => ⟨by omega, by omega, by omega, by omega, reach_r ha (by omega) (by omega) (by omega) (by omega) ⟨by omega, by omega, hf⟩⟩⟩
  have hc0 := a1.1
  exact ⟨_, key (h 56 7 (257 * c + 38 + 73 * k)).toNat 0 0 (by omega) (Int.le_refl _) IsMax.zero⟩
theorem reachAll_F {h : HP} {c k n : Int} {π : PL} {σ : ST} {P : Int → HP → Prop} (hc : 0 ≤ c ∧ c < 12) (hk : 0 ≤ k ∧ k ≤ 2) (q : CurveR (h 56 7) c k σ) (o : slotOK σ (3 * c + k)) (hm : 0 < σ 11 (3 * c + k) 0) (hn : cur σ (3 * c + k) ≤ n ∧ n ≤ 20000) (hn0 : 0 ≤ cur σ (3 * c + k)) (hv2 : σ 12 (3 * c + k) n < 2147483648) (kk : P (σ 12 (3 * c + k) n) h) : wX12_reachBy 7 c k n h P := by
  have w := o.1.2 hm
  unfold wellC at w
  unfold wX12_reachBy wX12_curveAt
  dsimp only
  rw [(q.2.1 hm).1]
  exact ⟨by omega, reachAll_g (π := π) hc hk q o hm (by omega) hn hn0 (q.2.2.2.2.2.2.1 n hn.1) hv2 kk⟩
theorem reachAll_E {h : HP} {c k n a : Int} {π : PL} {σ : ST} {P : Int → HP → Prop} (hc : 0 ≤ c ∧ c < 12) (hk : 0 ≤ k ∧ k ≤ 2) (q : CurveR (h 56 7) c k σ) (o : slotOK σ (3 * c + k)) (hm : 0 < σ 11 (3 * c + k) 0) (ha : a = max (σ 9 (3 * c + k) 0) (σ 11 (3 * c + k) 0)) (hn : cur σ (3 * c + k) ≤ n ∧ n ≤ 20000) (hn0 : 0 ≤ cur σ (3 * c + k)) (hv2 : σ 13 (3 * c + k) n < 2147483648) (kk : P (σ 13 (3 * c + k) n) h) : wX12_reachAll 7 c k n a h P := by
  have w := o.1.2 hm
  unfold wellC at w
  subst ha
  exact reachAll_g (π := π) hc hk q o hm (by omega) hn hn0 (q.2.2.2.2.2.2.2.1 n hn.1) hv2 kk
/-- of what is laid, those seen so far: many of them put by, the best of those behind -/
def BehR (σ : ST) (s y Y : Int) : Prop := ¬ 100 * (y - Y) ≤ σ 9 s 0 * σ 10 s 0
def CpOld (r cp : Int → Int) (b i j : Int) (σ : ST) (s y : Int) : Prop := ∃ i', 0 ≤ i' ∧ i' < i ∧ ¬ BehR σ s y (r (b + 2 + 2 * i')) ∧ cp (2 * j) = r (b + 1 + 2 * i') ∧ cp (2 * j + 1) = r (b + 2 + 2 * i')
def CpNew (r cp : Int → Int) (b m i' : Int) : Prop := ∃ j, 0 ≤ j ∧ j < m ∧ cp (2 * j) = r (b + 1 + 2 * i') ∧ cp (2 * j + 1) = r (b + 2 + 2 * i')
def SeenR (r cp : Int → Int) (b s y m best i : Int) (σ : ST) : Prop :=
  (0 ≤ m ∧ m ≤ 30) ∧ (best = -1 ∨ (0 ≤ best ∧ best < i ∧ BehR σ s y (r (b + 2 + 2 * best)))) ∧
  (∀ j, 0 ≤ j → j < m → cp (2 * j + 1) < y ∧ y - 30 + j ≤ cp (2 * j + 1) ∧ CpOld r cp b i j σ s y) ∧
  (∀ j j', 0 ≤ j → j < j' → j' < m → cp (2 * j + 1) < cp (2 * j' + 1)) ∧
  (∀ i', 0 ≤ i' → i' < i → (BehR σ s y (r (b + 2 + 2 * i')) → best ≠ -1 ∧ σ 11 s 0 * r (b + 1 + 2 * i') - 100 * r (b + 2 + 2 * i') ≤ σ 11 s 0 * r (b + 1 + 2 * best) - 100 * r (b + 2 + 2 * best)) ∧ (¬ BehR σ s y (r (b + 2 + 2 * i')) → r (b + 2 + 2 * i') = y ∨ CpNew r cp b m i'))
def Fr59 (h h' : HP) : Prop := ∀ k, k ≠ 59 → h' k = h k
theorem lay_scanR {h0 : HP} {c k x y : Int} {σ : ST} {Ko : Int → Int → HP → Prop} (hc : 0 ≤ c ∧ c < 12) (hk : 0 ≤ k ∧ k ≤ 2) (q : CurveR (h0 56 7) c k σ) (o : slotOK σ (3 * c + k)) (hm : 0 < σ 11 (3 * c + k) 0) (hy : cur σ (3 * c + k) = y) (hy0 : 0 ≤ y ∧ y ≤ 3000)
    (hK : ∀ m best h, Fr59 h0 h → SeenR (h0 56 7) (h 59 7) (257 * c + 38 + 73 * k) (3 * c + k) y m best (h0 56 7 (257 * c + 38 + 73 * k)) σ → Ko m best h) :
    ∀ (d : Nat) (m best i : Int) (h : HP), h0 56 7 (257 * c + 38 + 73 * k) - i = d → 0 ≤ i → Fr59 h0 h → SeenR (h0 56 7) (h 59 7) (257 * c + 38 + 73 * k) (3 * c + k) y m best i σ → wX12_lay_47 7 c k x y (257 * c + 4 * k) (257 * c + 38 + 73 * k) Ko (d + 1) m best i h := by
  obtain ⟨b1, b2, b3, a1, a2, a3, a4, a5, a6⟩ := q
  obtain ⟨e1, e2, e3⟩ := b2 hm
  have w := o.1.2 hm
  have wm := wellC_mul w
  unfold wellC at w
  have hxB : xB = 18000000 := rfl
  intro d
  induction d with
  | zero =>
    intro m best i h hd hi f g
    have f56 : h 56 = h0 56 := f 56 (by decide)
    rw [wX12_lay_47, f56]
    have : i = h0 56 7 (257 * c + 38 + 73 * k) := by omega
    subst this
    exact ⟨by omega, by omega, by omega, fun _ => hK m best h f g, fun z => absurd (Int.le_refl _) z⟩
  | succ d ih =>
    intro m best i h hd hi f g
    have f56 : h 56 = h0 56 := f 56 (by decide)
    have e := a2 i hi (by omega)
    obtain ⟨g1, g2, g3, g4, g5⟩ := id g
    rw [wX12_lay_47, f56, e1, e2, e3]
    refine ⟨by omega, by omega, by omega, fun z => absurd z (by omega), fun _ => ⟨by omega, by omega, by omega, by omega, ⟨by omega, by omega⟩, fun t19 h19 => ?_⟩⟩
    by_cases cb : 100 * (y - h0 56 7 (257 * c + 38 + 73 * k + 2 + 2 * i)) ≤ σ 9 (3 * c + k) 0 * σ 10 (3 * c + k) 0
    · have t0 := h19.1 cb
      subst t0
      have nb : ¬ BehR σ (3 * c + k) y (h0 56 7 (257 * c + 38 + 73 * k + 2 + 2 * i)) := fun z => z cb
      refine ⟨by omega, fun _ => ⟨by omega, by omega, fun cy => ?_, fun cy => ?_⟩, fun z => absurd rfl z⟩
      · unfold wX12_lay_243
        refine ih m best (i + 1) h (by omega) (by omega) f ⟨g1, by rcases g2 with v | v; exact Or.inl v; exact Or.inr ⟨v.1, by omega, v.2.2⟩, fun j j0 j1 => ?_, g4, fun i' i0 i1 => ?_⟩
        · obtain ⟨p1, p2, i', i0, i1, i2⟩ := g3 j j0 j1
          exact ⟨p1, p2, i', i0, by omega, i2⟩
        · by_cases z : i' = i
          · subst z; exact ⟨fun u => absurd u nb, fun _ => Or.inl cy⟩
          · exact g5 i' i0 (by omega)
      · -- ascending: the last put by is older
        have asc : ∀ j, 0 ≤ j → j < m → h 59 7 (2 * j + 1) < h0 56 7 (257 * c + 38 + 73 * k + 2 + 2 * i) := by
          intro j j0 j1
          obtain ⟨-, -, i', i0, i1, i2, i3, i4⟩ := g3 j j0 j1
          rw [i4]
          have cb' : 100 * (y - h0 56 7 (257 * c + 38 + 73 * k + 2 + 2 * i')) ≤ σ 9 (3 * c + k) 0 * σ 10 (3 * c + k) 0 := Decidable.byContradiction i2
          exact a3 i' i i0 i1 (by omega) (by rw [hy]; exact cb') (by rw [hy]; exact cb)
        have lo : y - 30 + m ≤ h0 56 7 (257 * c + 38 + 73 * k + 2 + 2 * i) := by
          by_cases z : m = 0
          · omega
          · have z1 := asc (m - 1) (by omega) (by omega)
            have z2 := (g3 (m - 1) (by omega) (by omega)).2.1
            omega
        refine ⟨by omega, fun h26 e26 => ⟨by omega, fun h28 e28 => ?_⟩⟩
        have f28 : Fr59 h0 h28 := fun k' hk' => by rw [e28, up_k hk', e26, up_k hk', f k' hk']
        have y26 : ∀ j, h28 59 7 j = if j = 2 * m + 1 then h0 56 7 (257 * c + 38 + 73 * k + 2 + 2 * i) else if j = 2 * m then h0 56 7 (257 * c + 38 + 73 * k + 1 + 2 * i) else h 59 7 j := fun j => by rw [e28, up_ji, e26, up_ji]
        have old : ∀ j, 0 ≤ j → j < m → h28 59 7 (2 * j) = h 59 7 (2 * j) ∧ h28 59 7 (2 * j + 1) = h 59 7 (2 * j + 1) := fun j j0 j1 => by
          rw [y26, y26, if_neg (by omega), if_neg (by omega), if_neg (by omega), if_neg (by omega)]; exact ⟨rfl, rfl⟩
        have new : h28 59 7 (2 * m) = h0 56 7 (257 * c + 38 + 73 * k + 1 + 2 * i) ∧ h28 59 7 (2 * m + 1) = h0 56 7 (257 * c + 38 + 73 * k + 2 + 2 * i) := by
          rw [y26, y26, if_neg (by omega), if_pos rfl, if_pos rfl]; exact ⟨rfl, rfl⟩
        unfold wX12_lay_243
        refine ih (m + 1) best (i + 1) h28 (by omega) (by omega) f28 ⟨by omega, by rcases g2 with v | v; exact Or.inl v; exact Or.inr ⟨v.1, by omega, v.2.2⟩, fun j j0 j1 => ?_, fun j j' j0 j1 j2 => ?_, fun i' i0 i1 => ⟨fun u => ?_, fun u => ?_⟩⟩
        · by_cases z : j = m
          · subst z
            rw [new.2]
            exact ⟨by omega, by omega, i, hi, by omega, nb, new.1, new.2⟩
          · obtain ⟨p1, p2, i', i0, i1, i2, i3, i4⟩ := g3 j j0 (by omega)
            obtain ⟨o1, o2⟩ := old j j0 (by omega)
            rw [o2]
            exact ⟨p1, p2, i', i0, by omega, i2, by rw [o1]; exact i3, by rw [o2]; exact i4⟩
        · rw [(old j j0 (by omega)).2]
          by_cases z : j' = m
          · subst z; rw [new.2]; exact asc j j0 (by omega)
          · rw [(old j' (by omega) (by omega)).2]; exact g4 j j' j0 j1 (by omega)
        · by_cases z : i' = i
          · subst z; exact absurd u nb
          · exact (g5 i' i0 (by omega)).1 u
        · by_cases z : i' = i
          · subst z; exact Or.inr ⟨m, by omega, by omega, new.1, new.2⟩
          · rcases (g5 i' i0 (by omega)).2 u with v | ⟨j, j0, j1, j2, j3⟩
            · exact Or.inl v
            · exact Or.inr ⟨j, j0, by omega, by rw [(old j j0 j1).1]; exact j2, by rw [(old j j0 j1).2]; exact j3⟩
    · have t1 := h19.2 cb
      subst t1
      have ib : BehR σ (3 * c + k) y (h0 56 7 (257 * c + 38 + 73 * k + 2 + 2 * i)) := cb
      have pm := mul_rng (a := σ 11 (3 * c + k) 0) (b := h0 56 7 (257 * c + 38 + 73 * k + 1 + 2 * i)) (A := 100) (B := 18000000) (by omega) (by omega) (by omega) (by omega) (by omega)
      refine ⟨by omega, fun z => absurd z (by omega), fun _ => ⟨⟨by omega, fun z => ?_⟩, fun t37 h37 => ?_⟩⟩
      · have eb := a2 best (by omega) (by omega)
        have pb := mul_rng (a := σ 11 (3 * c + k) 0) (b := h0 56 7 (257 * c + 38 + 73 * k + 1 + 2 * best)) (A := 100) (B := 18000000) (by omega) (by omega) (by omega) (by omega) (by omega)
        exact ⟨by omega, by omega, by omega, by omega, by omega, by omega⟩
      · have old : ∀ j, 0 ≤ j → j < m → h 59 7 (2 * j + 1) < y ∧ y - 30 + j ≤ h 59 7 (2 * j + 1) ∧ CpOld (h0 56 7) (h 59 7) (257 * c + 38 + 73 * k) (i + 1) j σ (3 * c + k) y := fun j j0 j1 => by
          obtain ⟨p1, p2, i', i0, i1, i2⟩ := g3 j j0 j1
          exact ⟨p1, p2, i', i0, by omega, i2⟩
        unfold wX12_lay_243
        by_cases z : best = -1
        · have e37 := h37.1 z
          subst e37
          refine ih m _ (_ + 1) h (by omega) (by omega) f ⟨g1, Or.inr ⟨hi, by omega, ib⟩, old, g4, fun i' i0 i1 => ⟨fun u => ?_, fun u => ?_⟩⟩
          · by_cases y1 : i' = t37
            · subst y1; exact ⟨by omega, Int.le_refl _⟩
            · exact absurd z (((g5 i' i0 (by omega)).1 u).1)
          · by_cases y1 : i' = t37
            · subst y1; exact absurd ib u
            · exact (g5 i' i0 (by omega)).2 u
        · have h3 := h37.2 z
          by_cases y1 : σ 11 (3 * c + k) 0 * h0 56 7 (257 * c + 38 + 73 * k + 1 + 2 * i) - 100 * h0 56 7 (257 * c + 38 + 73 * k + 2 + 2 * i) ≤ σ 11 (3 * c + k) 0 * h0 56 7 (257 * c + 38 + 73 * k + 1 + 2 * best) - 100 * h0 56 7 (257 * c + 38 + 73 * k + 2 + 2 * best)
          · have e37 := h3.1 y1
            subst e37
            refine ih m _ (i + 1) h (by omega) (by omega) f ⟨g1, Or.inr ⟨by omega, by omega, by rcases g2 with v | v; exact absurd v z; exact v.2.2⟩, old, g4, fun i' i0 i1 => ⟨fun u => ?_, fun u => ?_⟩⟩
            · by_cases y2 : i' = i
              · subst y2; exact ⟨z, y1⟩
              · exact (g5 i' i0 (by omega)).1 u
            · by_cases y2 : i' = i
              · subst y2; exact absurd ib u
              · exact (g5 i' i0 (by omega)).2 u
          · have e37 := h3.2 y1
            subst e37
            refine ih m _ (_ + 1) h (by omega) (by omega) f ⟨g1, Or.inr ⟨hi, by omega, ib⟩, old, g4, fun i' i0 i1 => ⟨fun u => ?_, fun u => ?_⟩⟩
            · by_cases y2 : i' = t37
              · subst y2; exact ⟨by omega, Int.le_refl _⟩
              · have := (g5 i' i0 (by omega)).1 u
                exact ⟨by omega, by omega⟩
            · by_cases y2 : i' = t37
              · subst y2; exact absurd ib u
              · exact (g5 i' i0 (by omega)).2 u
