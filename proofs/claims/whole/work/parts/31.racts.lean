/-! the reference: many units, sums, acts on a row -/
noncomputable def goZ (π : PL) (z s : Int) : Nat → ST → Int → ST
  | 0, σ, _ => σ
  | k + 1, σ, n => goZ π z s k (unitW π (suppW π σ z s n) σ) (n + toldN π σ z)
theorem suppW_none {π : PL} {σ : ST} {s n : Int} : suppW π σ (-1) s n = -1 := by unfold suppW; split <;> rfl
theorem toldN_none {π : PL} {σ : ST} : toldN π σ (-1) = 0 := by unfold toldN; rw [if_neg (fun u => by have := u.1; omega)]
theorem toldN_rng {π : PL} {σ : ST} {z : Int} : 0 ≤ toldN π σ z ∧ toldN π σ z ≤ 1 := by unfold toldN; split <;> omega
theorem unitW_none {π : PL} {σ : ST} : unitW π (-1) σ = unitA π σ := by
  unfold unitW unitA
  rw [tellsW_none _ (fun f _ => by omega)]
theorem goZ_none {π : PL} {s : Int} : ∀ (k : Nat) (σ : ST) (n : Int), goZ π (-1) s k σ n = goA π k σ := by
  intro k
  induction k with
  | zero => intro σ n; rfl
  | succ k ih =>
    intro σ n
    show goZ π (-1) s k (unitW π (suppW π σ (-1) s n) σ) (n + toldN π σ (-1)) = goA π k (unitA π σ)
    rw [suppW_none, toldN_none, unitW_none, ih]
theorem unitW_time {π : PL} {K w : Int} {σ : ST} (hp : PlanOK π) (inv : AInv π K σ) : unitW π w σ 0 0 0 = σ 0 0 0 + 1 ∧ unitW π w σ 0 5 0 = σ 0 5 0 := by
  have t0 : tellsW π w (π 0 1).toNat σ 0 = σ 0 := tellsW_0 (Or.inl rfl) _
  unfold unitW
  rw [tickA_t, tickA_0 (by decide) (by decide)]
  unfold midA
  split
  · rw [(chooseA_0 hp.1).1, (chooseA_0 hp.1).2.1, t0]; exact ⟨rfl, rfl⟩
  · rw [t0]; exact ⟨rfl, rfl⟩
theorem goOn_r {h : HP} {π : PL} {K a : Int} {σ : ST} {P : HP → Prop} (x : RX h π K σ) (ha : 0 ≤ a ∧ σ 0 0 0 + a ≤ 2700) (hz : -1 ≤ h 12 7 29 ∧ h 12 7 29 < 100) (hs : 0 ≤ h 12 7 31 ∧ h 12 7 31 ≤ 1000) (hW : h 12 7 32 = -1) (hw : 0 ≤ h 12 7 33 ∧ h 12 7 33 ≤ 10000)
    (k : ∀ h', FrU h h' → RX h' π K (goZ π (h 12 7 29) (h 12 7 30) a.toNat σ (h 12 7 31)) → h' 12 7 33 = h 12 7 33 → (h 12 7 29 = -1 → h' 12 7 31 = h 12 7 31) → (0 ≤ h' 12 7 31 ∧ h' 12 7 31 ≤ h 12 7 31 + a) → P h') : wX12_goOn 7 a h P := by
  have n0 := x.1.1.1
  have tr := x.2.2.1.1
  unfold wX12_goOn
  have loop : ∀ (d : Nat) (m : Int) (hh : HP) (τ : ST), (a - m).toNat = d → 0 ≤ m → m ≤ a → τ 0 0 0 = σ 0 0 0 + m → FrU h hh → RX hh π K τ → hh 12 7 33 = h 12 7 33 → (h 12 7 29 = -1 → hh 12 7 31 = h 12 7 31) → (0 ≤ hh 12 7 31 ∧ hh 12 7 31 ≤ h 12 7 31 + m) →
      goZ π (h 12 7 29) (h 12 7 30) d τ (hh 12 7 31) = goZ π (h 12 7 29) (h 12 7 30) a.toNat σ (h 12 7 31) → wX12_goOn_2 7 a (fun h6 => P h6) (d + 1) m hh := by
    intro d
    induction d with
    | zero =>
      intro m hh τ hd m0 m1 ht fr xx e33 e31 b31 hg
      have em : m = a := by omega
      subst em
      rw [wX12_goOn_2]
      refine ⟨by omega, by omega, fun _ => k hh fr ?_ e33 e31 b31, fun c => absurd (Int.le_refl _) c⟩
      rw [← hg]; exact xx
    | succ d ih =>
      intro m hh τ hd m0 m1 ht fr xx e33 e31 b31 hg
      have f29 : hh 12 7 29 = h 12 7 29 := fr.2 29 (by decide) (by decide) (by decide)
      have f30 : hh 12 7 30 = h 12 7 30 := fr.2 30 (by decide) (by decide) (by decide)
      have f32 : hh 12 7 32 = h 12 7 32 := fr.2 32 (by decide) (by decide) (by decide)
      have hd1 : (a - (m + 1)).toNat = d := by omega
      rw [wX12_goOn_2]
      refine ⟨by omega, by omega, fun c => absurd c (by omega), fun _ => unit_r xx (by omega) ⟨by rw [f29]; exact hz, by omega, by rw [f32, hW]; omega, by omega⟩ (fun h' g1 g2 g3 g4 g5 => ?_)⟩
      rw [f29] at g2 g3 g4
      rw [f30] at g3
      have tn := toldN_rng (π := π) (σ := τ) (z := h 12 7 29)
      have w0 : h' 12 7 33 = hh 12 7 33 := by
        have := g4.1
        rw [f32, hW] at this
        unfold accN at this
        rw [if_neg (by omega)] at this
        omega
      refine ih (m + 1) h' _ hd1 (by omega) (by omega) ?_ (fr.tr g1) g3 (by omega) (fun c => ?_) (by omega) ?_
      · rw [(unitW_time x.1 xx.2.2.1).1]; omega
      · rw [g2, c, toldN_none, e31 c]; omega
      · rw [g2, ← hg]; rfl
  exact ⟨_, loop _ 0 h σ rfl (by omega) (by omega) (by omega) (FrU.rf h) x rfl (fun _ => rfl) (by omega) (by rw [show (a - 0).toNat = a.toNat by omega])⟩
/-- the reference at rest -/
def IdleR (h : HP) : Prop := h 12 7 29 = -1 ∧ h 12 7 32 = -1 ∧ (0 ≤ h 12 7 31 ∧ h 12 7 31 ≤ 1000) ∧ (0 ≤ h 12 7 33 ∧ h 12 7 33 ≤ 10000)
theorem IdleR.unH {h : HP} {π : PL} (q : IdleR h) (ht : 0 ≤ π 0 0) : UnH h π 2700 := by
  obtain ⟨q1, q2, q3, q4⟩ := q
  exact ⟨by omega, by omega, by omega, by omega⟩
theorem goOn0_r {h : HP} {π : PL} {K a : Int} {σ : ST} {P : HP → Prop} (x : RX h π K σ) (i : IdleR h) (ha : 0 ≤ a ∧ σ 0 0 0 + a ≤ 2700)
    (k : ∀ h', FrU h h' → IdleR h' → RX h' π K (goA π a.toNat σ) → P h') : wX12_goOn 7 a h P := by
  obtain ⟨q1, q2, q3, q4⟩ := i
  refine goOn_r x ha (by omega) q3 q2 q4 (fun h' g1 g2 g3 g4 g5 => k h' g1 ⟨?_, ?_, ?_, ?_⟩ ?_)
  · rw [g1.2 29 (by decide) (by decide) (by decide)]; exact q1
  · rw [g1.2 32 (by decide) (by decide) (by decide)]; exact q2
  · rw [g4 q1]; exact q3
  · rw [g3]; exact q4
  · rw [q1, goZ_none] at g2; exact g2
/-! sums -/
def allQ (π : PL) (σ : ST) : Int := sumN (fun c => σ 6 c 0) (π 0 0).toNat
theorem allQ_hel {π : PL} {σ : ST} (ht : treeOK π) : allQ π σ = hel π σ 12 :=
  sumN_congr (fun c hc => by rw [helT_y (inCh_all ht (by omega) (by omega))])
theorem packets_r {h : HP} {π : PL} {K : Int} {σ : ST} {P : Int → HP → Prop} (x : RX h π K σ) (k : P (allQ π σ) h) : wX12_packetsNow 7 h P := by
  have n0 := x.1.1.1
  have n12 := x.1.1.2.1
  have e49 := x.2.1.1.1
  unfold wX12_packetsNow
  have loop : ∀ (d m : Nat), (π 0 0).toNat - m = d → m ≤ (π 0 0).toNat → wX12_packetsNow_4 7 h (fun l6 => P l6 h) (d + 1) (sumN (fun c => σ 6 c 0) m) m := by
    intro d
    induction d with
    | zero =>
      intro m hd hm
      have e : m = (π 0 0).toNat := by omega
      subst e
      rw [wX12_packetsNow_4, e49]
      exact ⟨by omega, by omega, fun _ => k, fun c => absurd (by omega) c⟩
    | succ d ih =>
      intro m hd hm
      have hn := ih (m + 1) (by omega) (by omega)
      rw [wX12_packetsNow_4, e49, (x.2.2.2.2.2 m (by omega) (by omega)).1.2.2.2.2.2]
      exact ⟨by omega, by omega, fun c => absurd c (by omega), fun _ => ⟨by omega, hn⟩⟩
  exact ⟨_, loop _ 0 rfl (by omega)⟩
theorem actives_r {h : HP} {π : PL} {K : Int} {σ : ST} {P : Int → HP → Prop} (x : RX h π K σ) (k : P (activeA π σ) h) : wX12_activeLeaves 7 h P := by
  have n0 := x.1.1.1
  have n12 := x.1.1.2.1
  have e49 := x.2.1.1.1
  unfold wX12_activeLeaves
  have loop : ∀ (d m : Nat), (π 0 0).toNat - m = d → m ≤ (π 0 0).toNat → wX12_activeLeaves_4 7 h (fun l6 => P l6 h) (d + 1) (sumN (fun c => if 0 < σ 6 c 0 then 1 else 0) m) m := by
    intro d
    induction d with
    | zero =>
      intro m hd hm
      have e : m = (π 0 0).toNat := by omega
      subst e
      rw [wX12_activeLeaves_4, e49]
      exact ⟨by omega, by omega, fun _ => k, fun c => absurd (by omega) c⟩
    | succ d ih =>
      intro m hd hm
      have hn := ih (m + 1) (by omega) (by omega)
      have q := x.2.2.1.qln m (by omega) (by omega)
      rw [wX12_activeLeaves_4, e49, (x.2.2.2.2.2 m (by omega) (by omega)).1.2.2.2.2.2]
      refine ⟨by omega, by omega, fun c => absurd c (by omega), fun _ => ⟨by omega, by omega, fun t6 h6 => ?_⟩⟩
      have e : sumN (fun c => if 0 < σ 6 c 0 then 1 else 0) (m + 1) = sumN (fun c => if 0 < σ 6 c 0 then 1 else 0) m + t6 := by
        show _ + (if 0 < σ 6 m 0 then (1 : Int) else 0) = _
        by_cases z : σ 6 m 0 ≤ 0
        · rw [if_neg (by omega), h6.1 z]
        · rw [if_pos (by omega), h6.2 z]
      rw [e] at hn
      exact hn
  exact ⟨_, loop _ 0 rfl (by omega)⟩
theorem lost_r {h : HP} {π : PL} {K : Int} {σ : ST} {P : Int → HP → Prop} (x : RX h π K σ) (k : P (lostA π σ) h) : wX12_lostNow 7 h P := by
  have n0 := x.1.1.1
  have n12 := x.1.1.2.1
  have e49 := x.2.1.1.1
  unfold wX12_lostNow
  have loop : ∀ (d m : Nat), (π 0 0).toNat - m = d → m ≤ (π 0 0).toNat → wX12_lostNow_4 7 h (fun l6 => P l6 h) (d + 1) (sumN (fun c => σ 5 c 0) m) m := by
    intro d
    induction d with
    | zero =>
      intro m hd hm
      have e : m = (π 0 0).toNat := by omega
      subst e
      rw [wX12_lostNow_4, e49]
      exact ⟨by omega, by omega, fun _ => k, fun c => absurd (by omega) c⟩
    | succ d ih =>
      intro m hd hm
      have hn := ih (m + 1) (by omega) (by omega)
      rw [wX12_lostNow_4, e49, (x.2.2.2.2.2 m (by omega) (by omega)).1.2.2.2.2.1]
      exact ⟨by omega, by omega, fun c => absurd c (by omega), fun _ => ⟨by omega, hn⟩⟩
  exact ⟨_, loop _ 0 rfl (by omega)⟩
theorem sent_r {h : HP} {π : PL} {K : Int} {σ : ST} {P : Int → HP → Prop} (x : RX h π K σ) (k : P (sentA π σ) h) : wX12_sentNow 7 h P := by
  have n0 := x.1.1.1
  have n12 := x.1.1.2.1
  have e49 := x.2.1.1.1
  unfold wX12_sentNow
  have loop : ∀ (d m : Nat), (π 0 0).toNat - m = d → m ≤ (π 0 0).toNat → wX12_sentNow_4 7 h (fun l6 => P l6 h) (d + 1) (sumN (fun c => if π 1 c = 12 then σ 1 c 0 else 0) m) m := by
    intro d
    induction d with
    | zero =>
      intro m hd hm
      have e : m = (π 0 0).toNat := by omega
      subst e
      rw [wX12_sentNow_4, e49]
      exact ⟨by omega, by omega, fun _ => k, fun c => absurd (by omega) c⟩
    | succ d ih =>
      intro m hd hm
      have m1 : (m : Int) < π 0 0 := by omega
      have hn := ih (m + 1) (by omega) (by omega)
      have rr : rc (π 1 m) = -1 ↔ π 1 m = 12 := by
        have := rc_eq x.1.1 (c := m) (i := 12) (by omega) m1 (Or.inr rfl)
        exact this
      have pk := par_ok x.1.1 (a := m) (by omega) m1
      have rg : -1 ≤ rc (π 1 m) ∧ rc (π 1 m) < 12 := by unfold rc; split <;> omega
      rw [wX12_sentNow_4, e49, (x.2.2.2.2.2 m (by omega) m1).1.1, x.2.1.par (by omega) m1]
      refine ⟨by omega, by omega, fun c => absurd c (by omega), fun _ => ⟨by omega, ⟨by omega, fun _ => by omega⟩, fun t7 h7 => ?_⟩⟩
      have e : sumN (fun c => if π 1 c = 12 then σ 1 c 0 else 0) (m + 1) = sumN (fun c => if π 1 c = 12 then σ 1 c 0 else 0) m + t7 := by
        show _ + (if π 1 m = 12 then σ 1 m 0 else 0) = _
        by_cases z : π 1 m = 12
        · rw [if_pos z, h7.2 (rr.mpr z)]
        · rw [if_neg z, h7.1 (fun u => z (rr.mp u))]
      rw [e] at hn
      exact hn
  exact ⟨_, loop _ 0 rfl (by omega)⟩
theorem bytes_r {h : HP} {π : PL} {K c : Int} {σ : ST} {P : Int → HP → Prop} (x : RX h π K σ) (c0 : 0 ≤ c) (c1 : c < π 0 0) (k : P (bytesA σ c) h) : wX12_bytesOf 7 c h P := by
  have n12 := x.1.1.2.1
  have ql := x.2.2.1.qln c c0 c1
  have e17 := (x.2.2.2.2.2 c c0 c1).1.2.2.2.2.2
  unfold wX12_bytesOf
  have loop : ∀ (d m : Nat), (σ 6 c 0).toNat - m = d → m ≤ (σ 6 c 0).toNat → wX12_bytesOf_4 7 c h (fun l6 => P l6 h) (d + 1) (sumN (fun i => σ 7 c i) m) m := by
    intro d
    induction d with
    | zero =>
      intro m hd hm
      have e : m = (σ 6 c 0).toNat := by omega
      subst e
      rw [wX12_bytesOf_4, e17]
      exact ⟨by omega, by omega, by omega, fun _ => k, fun c => absurd (by omega) c⟩
    | succ d ih =>
      intro m hd hm
      have hn := ih (m + 1) (by omega) (by omega)
      rw [wX12_bytesOf_4, e17, (x.2.2.2.2.2 c c0 c1).2.1 m (by omega) (by omega)]
      exact ⟨by omega, by omega, by omega, fun c => absurd c (by omega), fun _ => ⟨by omega, hn⟩⟩
  exact ⟨_, loop _ 0 rfl (by omega)⟩
theorem isIn_r {a b c : Int} {h : HP} {P : Int → HP → Prop} (ha : -2147483648 ≤ a ∧ a < 2147483648) (hb : -2147483648 ≤ b ∧ b < 2147483648) (hc : -2147483648 ≤ c ∧ c < 2147483648) (k : ∀ y, (y = 0 ∨ y = 1) → (y = 1 ↔ b ≤ a ∧ a ≤ c) → P y h) : wX12_isIn a b c h P := by
  unfold wX12_isIn
  refine ⟨⟨ha, hb, fun _ => ⟨ha, hc⟩⟩, fun t5 h5 => ?_⟩
  have : (t5 = 0 ∨ t5 = 1) ∧ (t5 = 1 ↔ b ≤ a ∧ a ≤ c) := by
    by_cases z : a < b
    · rw [h5.1 z]; omega
    · by_cases y : c < a
      · rw [(h5.2 z).1 y]; omega
      · rw [(h5.2 z).2 y]; omega
  exact ⟨this.1, k t5 this.1 this.2⟩
theorem isClass_r {c : Int} {h : HP} {π : PL} {P : Int → HP → Prop} (hp : PlanOK π) (pr : PlanR h π) (hc : -2147483648 ≤ c ∧ c < 2147483648) (k : ∀ y, (y = 0 ∨ y = 1) → (y = 1 ↔ 0 ≤ c ∧ c < π 0 0) → P y h) : wX12_isClass 7 c h P := by
  have n0 := hp.1.1
  have n12 := hp.1.2.1
  unfold wX12_isClass
  rw [pr.1.1]
  exact isIn_r hc (by omega) (by omega) (fun y hy hq => ⟨hy, k y hy (by rw [hq]; omega)⟩)
theorem isLeafThere_r {c : Int} {h : HP} {π : PL} {P : Int → HP → Prop} (hp : PlanOK π) (pr : PlanR h π) (hc : -2147483648 ≤ c ∧ c < 2147483648) (k : ∀ y, (y = 0 ∨ y = 1) → (y = 1 ↔ (0 ≤ c ∧ c < π 0 0) ∧ kids π c = 0) → P y h) : wX12_isLeafThere 7 c h P := by
  unfold wX12_isLeafThere
  refine isClass_r hp pr hc (fun y hy hq => ⟨by omega, fun z => k 0 (Or.inl rfl) ⟨fun u => by omega, fun u => by have := hq.mpr u.1; omega⟩, fun z => ?_⟩)
  have cc := hq.mp (by omega)
  refine isLeaf_r hp.1 pr cc.1 cc.2 (fun y2 hy2 hq2 => ⟨by omega, fun z2 => k 0 (Or.inl rfl) ⟨fun u => by omega, fun u => by have := hq2.mpr u.2; omega⟩, fun z2 => k 1 (Or.inr rfl) ⟨fun _ => ⟨cc, hq2.mp (by omega)⟩, fun _ => rfl⟩⟩)
