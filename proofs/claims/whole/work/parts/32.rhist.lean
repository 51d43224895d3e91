/-! the reference: what was, and acts on a row -/
theorem RowR.ext {r r' : Int → Int} {π : PL} {σ : ST} (hp : PlanOK π) (q : RowR r π σ) (hq : ∀ b, 0 ≤ b → b < π 0 0 → 0 ≤ σ 6 b 0 ∧ σ 6 b 0 ≤ 20) (e : ∀ j, 0 ≤ j → j < 3099 → r' j = r j) : RowR r' π σ := by
  have n0 := hp.1.1
  have n12 := hp.1.2.1
  have n8 := hp.2.1
  refine q.gen hp.1 (fun c i c0 c1 hi => e _ (by omega) (by omega)) ?_ (fun f f0 f1 => ?_) (fun b b0 b1 => ?_) (fun b i b0 b1 i0 i1 => ?_) rfl rfl rfl rfl rfl (fun s _ _ => Int.le_refl _) (Int.le_refl _)
  · rw [e 3084 (by omega) (by omega), e 3085 (by omega) (by omega), e 3086 (by omega) (by omega), e 3087 (by omega) (by omega), e 3088 (by omega) (by omega), e 3089 (by omega) (by omega), e 3090 (by omega) (by omega)]; exact q.1
  · rw [e _ (by omega) (by omega)]; exact q.2.1 f f0 f1
  · rw [e (257 * b + 12) (by omega) (by omega), e (257 * b + 13) (by omega) (by omega), e (257 * b + 14) (by omega) (by omega), e (257 * b + 15) (by omega) (by omega), e (257 * b + 16) (by omega) (by omega), e (257 * b + 17) (by omega) (by omega)]
    exact (q.2.2 b b0 b1).1
  · have := hq b b0 b1
    rw [e _ (by omega) (by omega)]; exact (q.2.2 b b0 b1).2.1 i i0 i1
theorem copyTo_r {k0 k1 : Nat} {i0 i1 : Int} {n : Nat} {h : HP} {P : HP → Prop} (c0 : kCls k0 = 99) (c1 : kCls k1 = 99) (l0 : kLen k0 = n) (l1 : kLen k1 = n) (hn : n < 1000000) (ne : k1 ≠ k0)
    (k : ∀ h', h' = upr h k0 i0 (fun j => if 0 ≤ j ∧ j < n then h k1 i1 j else h k0 i0 j) → P h') : wX12_copyTo k0 i0 k1 i1 h P := by
  unfold wX12_copyTo
  have loop : ∀ (d m : Nat), n - m = d → m ≤ n → wX12_copyTo_2 k0 i0 k1 i1 k0 i0 k1 i1 (fun h11 => P h11) (d + 1) m (upr h k0 i0 (fun j => if 0 ≤ j ∧ j < m then h k1 i1 j else h k0 i0 j)) := by
    intro d
    induction d with
    | zero =>
      intro m hd hm
      have e : m = n := by omega
      subst e
      rw [wX12_copyTo_2, l0]
      exact ⟨c0, by omega, by omega, fun _ => k _ rfl, fun c => absurd (Int.le_refl _) c⟩
    | succ d ih =>
      intro m hd hm
      have hn := ih (m + 1) (by omega) (by omega)
      rw [wX12_copyTo_2, l0, l1]
      refine ⟨c0, by omega, by omega, fun c => absurd c (by omega), fun _ => ⟨c1, by omega, c0, by omega, fun h7 e7 => ?_⟩⟩
      have : h7 = upr h k0 i0 (fun j => if 0 ≤ j ∧ j < ((m + 1 : Nat) : Int) then h k1 i1 j else h k0 i0 j) := by
        rw [e7, upr_k ne]
        unfold up upr
        funext k' i' j'
        by_cases z : k' = k0
        · simp only [if_pos z, if_true]
          by_cases y : i' = i0
          · simp only [if_pos y, if_true]
            by_cases w : j' = m
            · rw [if_pos w, if_pos (by omega), w]
            · rw [if_neg w]
              by_cases v : 0 ≤ j' ∧ j' < (m : Int)
              · rw [if_pos v, if_pos (by omega)]
              · rw [if_neg v, if_neg (by omega)]
          · simp only [if_neg y]
        · simp only [if_neg z]
      rw [this]
      exact hn
  have h0 : upr h k0 i0 (fun j => if 0 ≤ j ∧ j < ((0 : Nat) : Int) then h k1 i1 j else h k0 i0 j) = h := by
    unfold upr
    funext k' i' j'
    by_cases z : k' = k0
    · simp only [if_pos z]
      by_cases y : i' = i0
      · simp only [if_pos y]
        rw [if_neg (by omega), z, y]
      · simp only [if_neg y, z]
    · simp only [if_neg z]
  have := loop n 0 (by omega) (by omega)
  rw [h0] at this
  exact ⟨_, this⟩
/-- what is kept for an undo -/
def PastR (h : HP) (π : PL) (n : Int) (Hs : Int → ST) : Prop := h 12 7 35 = n ∧ (0 ≤ n ∧ n ≤ 40) ∧ ∀ i, 0 ≤ i → i < n → RowR (fun j => h 62 7 (3099 * i + j)) π (Hs i)
def QLn (π : PL) (σ : ST) : Prop := ∀ b, 0 ≤ b → b < π 0 0 → 0 ≤ σ 6 b 0 ∧ σ 6 b 0 ≤ 20
def FrP (h h' : HP) : Prop := (∀ k, k ≠ 12 → k ≠ 62 → h' k = h k) ∧ (∀ j, j ≠ 35 → h' 12 7 j = h 12 7 j)
theorem keep_r {h : HP} {π : PL} {n : Int} {σ : ST} {Hs : Int → ST} {P : HP → Prop} (hp : PlanOK π) (row : RowR (h 56 7) π σ) (hq : QLn π σ) (pa : PastR h π n Hs) (hQ : ∀ i, 0 ≤ i → i < n → QLn π (Hs i))
    (k : ∀ h', FrP h h' → PastR h' π (keepN n) (keepH n Hs σ) → P h') : wX12_keep 7 h P := by
  obtain ⟨p1, p2, p3⟩ := pa
  have put : ∀ (m : Int) (hh : HP), 0 ≤ m → m < 40 → hh 12 7 35 = m → (∀ k, k ≠ 12 → k ≠ 62 → hh k = h k) → (∀ h', (∀ k, k ≠ 12 → k ≠ 62 → h' k = h k) → (∀ j, j ≠ 35 → h' 12 7 j = hh 12 7 j) → h' 12 7 35 = m + 1 → (∀ j, h' 62 7 j = if 3099 * m ≤ j ∧ j < 3099 * m + 3099 then h 56 7 (j - 3099 * m) else hh 62 7 j) → P h') → wX12_keep_54 7 P hh := by
    intro m hh m0 m40 e35 fr kk
    unfold wX12_keep_54
    have loop : ∀ (d : Nat) (t : Int) (h1 : HP), (3099 - t).toNat = d → 0 ≤ t → t ≤ 3099 → (∀ k, k ≠ 62 → h1 k = hh k) → (∀ j, h1 62 7 j = if 3099 * m ≤ j ∧ j < 3099 * m + t then h 56 7 (j - 3099 * m) else hh 62 7 j) → wX12_keep_56 7 (fun h9 => ∀ h10 : HP, h10 = up h9 12 7 35 ((h9 12 7 35) + 1) → P h10) (d + 1) t h1 := by
      intro d
      induction d with
      | zero =>
        intro t h1 hd t0 t1 f1 g1
        have et : t = 3099 := by omega
        subst et
        rw [wX12_keep_56]
        refine ⟨by omega, fun _ h10 e10 => kk h10 (fun k k1 k2 => by rw [e10, up_k k1, f1 k k2]; exact fr k k1 k2) (fun j hj => by rw [e10, up_j hj, f1 12 (by decide)]) (by rw [e10, up_eq, f1 12 (by decide), e35]) (fun j => by rw [e10, up_k (by decide)]; exact g1 j), fun c => absurd (Int.le_refl _) c⟩
      | succ d ih =>
        intro t h1 hd t0 t1 f1 g1
        have hd1 : (3099 - (t + 1)).toNat = d := by omega
        rw [wX12_keep_56, f1 12 (by decide), e35]
        refine ⟨by omega, fun c => absurd c (by omega), fun _ => ⟨by omega, by omega, fun h6 e6 => ih (t + 1) h6 hd1 (by omega) (by omega) (fun k hk => by rw [e6, up_k hk]; exact f1 k hk) (fun j => ?_)⟩⟩
        rw [e6, up_ji, g1, f1 56 (by decide), fr 56 (by decide) (by decide)]
        by_cases z : j = 3099 * m + t
        · rw [if_pos z, if_pos (by omega)]; congr 1; omega
        · rw [if_neg z]
          by_cases y : 3099 * m ≤ j ∧ j < 3099 * m + t
          · rw [if_pos y, if_pos (by omega)]
          · rw [if_neg y, if_neg (by omega)]
    exact ⟨_, loop _ 0 hh rfl (by omega) (by omega) (fun _ _ => rfl) (fun j => by rw [if_neg (by omega)])⟩
  unfold wX12_keep
  rw [p1]
  refine ⟨by omega, fun c => put n h (by omega) (by omega) p1 (fun _ _ _ => rfl) (fun h' f1 f2 f3 f4 => k h' ⟨f1, f2⟩ ⟨?_, ?_, fun i i0 i1 => ?_⟩), fun c => ?_⟩
  · unfold keepN; rw [if_pos (by omega), f3]
  · unfold keepN; rw [if_pos (by omega)]; omega
  · unfold keepN at i1
    rw [if_pos (by omega)] at i1
    unfold keepH
    rw [if_pos (by omega)]
    show RowR _ π (if i = n then σ else Hs i)
    by_cases z : i = n
    · rw [if_pos z]
      refine row.ext hp hq (fun j j0 j1 => ?_)
      show h' 62 7 (3099 * i + j) = _
      rw [f4, if_pos (by omega)]; congr 1; omega
    · rw [if_neg z]
      refine (p3 i i0 (by omega)).ext hp (hQ i i0 (by omega)) (fun j j0 j1 => ?_)
      show h' 62 7 (3099 * i + j) = _
      rw [f4, if_neg (by omega)]
  · subst c
    have loop : ∀ (Ko : HP → Prop), (∀ h', (∀ k, k ≠ 62 → h' k = h k) → (∀ j, 0 ≤ j → j < 120861 → h' 62 7 j = h 62 7 (j + 3099)) → Ko h') →
        ∀ (d : Nat) (t : Int) (h1 : HP), (123960 - t).toNat = d → 3099 ≤ t → t ≤ 123960 → (∀ k, k ≠ 62 → h1 k = h k) → (∀ j, h1 62 7 j = if 0 ≤ j ∧ j < t - 3099 then h 62 7 (j + 3099) else h 62 7 j) → wX12_keep_13 7 Ko (d + 1) t h1 := by
      intro Ko hKo d
      induction d with
      | zero =>
        intro t h1 hd t0 t1 f1 g1
        have et : t = 123960 := by omega
        subst et
        rw [wX12_keep_13]
        exact ⟨by omega, fun _ => hKo h1 f1 (fun j j0 j1 => by rw [g1, if_pos (by omega)]), fun c => absurd (Int.le_refl _) c⟩
      | succ d ih =>
        intro t h1 hd t0 t1 f1 g1
        have hd1 : (123960 - (t + 1)).toNat = d := by omega
        rw [wX12_keep_13]
        refine ⟨by omega, fun c => absurd c (by omega), fun _ => ⟨by omega, by omega, fun h14 e14 => ih (t + 1) h14 hd1 (by omega) (by omega) (fun k hk => by rw [e14, up_k hk]; exact f1 k hk) (fun j => ?_)⟩⟩
        rw [e14, up_ji, g1, g1, if_neg (show ¬ (0 ≤ t ∧ t < t - 3099) by omega)]
        by_cases z : j = t - 3099
        · rw [if_pos z, if_pos (by omega)]; congr 1; omega
        · rw [if_neg z]
          by_cases y : 0 ≤ j ∧ j < t - 3099
          · rw [if_pos y, if_pos (by omega)]
          · rw [if_neg y, if_neg (by omega)]
    refine ⟨_, loop _ (fun h17 f17 g17 h18 e18 => ?_) _ 3099 h rfl (by omega) (by omega) (fun _ _ => rfl) (fun j => by rw [if_neg (by omega)])⟩
    have e39 : h18 12 7 35 = 39 := by rw [e18, up_eq, f17 12 (by decide), p1]; rfl
    refine put 39 h18 (by omega) (by omega) e39 (fun k k1 k2 => by rw [e18, up_k k1, f17 k k2]) (fun h' f1 f2 f3 f4 => k h' ⟨f1, fun j hj => by rw [f2 j hj, e18, up_j hj, f17 12 (by decide)]⟩ ⟨?_, ?_, fun i i0 i1 => ?_⟩)
    · unfold keepN; rw [if_neg (by omega), f3]; rfl
    · unfold keepN; rw [if_neg (by omega)]; omega
    · unfold keepN at i1
      rw [if_neg (by omega)] at i1
      unfold keepH
      rw [if_neg (by omega)]
      show RowR _ π (if i = 39 then σ else Hs (i + 1))
      by_cases z : i = 39
      · rw [if_pos z]
        refine row.ext hp hq (fun j j0 j1 => ?_)
        show h' 62 7 (3099 * i + j) = _
        rw [f4, if_pos (by omega)]; congr 1; omega
      · rw [if_neg z]
        refine (p3 (i + 1) (by omega) (by omega)).ext hp (hQ (i + 1) (by omega) (by omega)) (fun j j0 j1 => ?_)
        show h' 62 7 (3099 * i + j) = h 62 7 (3099 * (i + 1) + j)
        rw [f4, if_neg (by omega), e18, up_k (by decide), g17 _ (by omega) (by omega)]
        congr 1; omega
/-- the row put by -/
theorem remember_r {h : HP} {P : HP → Prop} (k : ∀ h', h' = upr h 63 7 (fun j => if 0 ≤ j ∧ j < 3099 then h 56 7 j else h 63 7 j) → P h') : wX12_rememberNow 7 h P := by
  unfold wX12_rememberNow
  exact copyTo_r (n := 3099) rfl rfl rfl rfl (by omega) (by decide) (fun h' e => k h' e)
theorem back_r {h : HP} {v : Int} {P : Int → HP → Prop} (k : ∀ h', h' = upr h 56 7 (fun j => if 0 ≤ j ∧ j < 3099 then h 63 7 j else h 56 7 j) → P v h') : wX12_back 7 v h P := by
  unfold wX12_back
  exact copyTo_r (n := 3099) rfl rfl rfl rfl (by omega) (by decide) (fun h' e => k h' e)
/-! acts -/
theorem CurveR.put {r : Int → Int} {c k a b d : Int} {σ : ST} (w : wellC a b d) (e0 : r (257 * c + 4 * k) = 1) (e1 : r (257 * c + 4 * k + 1) = a) (e2 : r (257 * c + 4 * k + 2) = b) (e3 : r (257 * c + 4 * k + 3) = d) (e4 : r (257 * c + 38 + 73 * k) = 0) : CurveR r c k (putA σ (3 * c + k) a b d) := by
  unfold wellC at w
  obtain ⟨s1, s2, s3, s4, s5⟩ := putA_s (σ := σ) (s := 3 * c + k) (a := a) (b := b) (d := d)
  unfold CurveR LaidR
  rw [s1, s2, s3, e0, e1, e2, e3, e4, s4, s5]
  refine ⟨by rw [if_pos (by omega)], fun _ => ⟨rfl, rfl, rfl⟩, fun _ => rfl, by omega, fun i i0 i1 => by omega, fun i j i0 i1 i2 => by omega, fun n _ => ⟨Int.le_refl _, fun i i0 i1 => by omega, Or.inl rfl⟩, fun n _ => ⟨Int.le_refl _, fun i i0 i1 => by omega, Or.inl rfl⟩, fun _ i i0 i1 => by omega⟩
theorem bend_r {h : HP} {π : PL} {K c k a b d : Int} {σ : ST} {P : HP → Prop} (x : RX h π K σ) (c0 : 0 ≤ c) (c1 : c < π 0 0) (hk : 0 ≤ k ∧ k ≤ 2) (w : wellC a b d) (hg : k = 0 → kids π c = 0)
    (kk : ∀ h', Fr5659 h h' → RX h' π K (changeA π σ (hel π σ c) c k a b d) → P h') : wX12_bend 7 c k a b d h P := by
  obtain ⟨hp, pr, inv, row⟩ := id x
  have n12 := hp.1.2.1
  have tr := inv.1
  have cls2 := (inv.2.2.2.2.2.2.1 c c0 c1).2.1
  have cr := inv.2.2.1
  have hxB : xB = 18000000 := rfl
  unfold wX12_bend wX12_curveAt wX12_laidAt
  dsimp only
  refine ⟨by omega, fun h3 e3 => ⟨by omega, fun h5 e5 => ⟨by omega, fun h7 e7 => ⟨by omega, fun h9 e9 => ⟨by omega, fun h13 e13 => ?_⟩⟩⟩⟩⟩
  have k13 : ∀ k, k ≠ 56 → h13 k = h k := fun k hk => by rw [e13, up_k hk, e9, up_k hk, e7, up_k hk, e5, up_k hk, e3, up_k hk]
  have f13 : Fr5659 h h13 := fun k k1 _ => k13 k k1
  have row13 : RowR (h13 56 7) π (putA σ (3 * c + k) a b d) := by
    refine row.slot hp.1 (fun b b0 b1 => inv.qln b b0 b1) c0 c1 hk (fun j h1 h2 => ?_) (CurveR.put w ?_ ?_ ?_ ?_ ?_) (fun k' h => putA_k h) (fun k' t h => putA_o h)
    · rw [e13, up_j (by omega), e9, up_j (by omega), e7, up_j (by omega), e5, up_j (by omega), e3, up_j (by omega)]
    · rw [e13, up_j (by omega), e9, up_j (by omega), e7, up_j (by omega), e5, up_j (by omega), e3, up_eq]
    · rw [e13, up_j (by omega), e9, up_j (by omega), e7, up_j (by omega), e5, up_eq]
    · rw [e13, up_j (by omega), e9, up_j (by omega), e7, up_eq]
    · rw [e13, up_j (by omega), e9, up_eq]
    · rw [e13, up_eq]
  have i1 := putA_inv inv (c := c) hk w hg
  have x13 : RX h13 π K (putA σ (3 * c + k) a b d) := ⟨hp, pr.congr (fun k k1 k2 => k13 k (by omega)), i1, row13⟩
  have hh : hel π (putA σ (3 * c + k) a b d) c = hel π σ c := hel_same (putA_k (by decide))
  refine active_r x13 c0 c1 (fun y hy hq => ?_)
  rw [hh] at hq
  refine ⟨by omega, fun z => ?_, fun z => ⟨⟨by omega, fun _ => by omega⟩, fun t21 h21 => ?_⟩⟩
  · refine kk h13 f13 ?_
    unfold changeA
    rw [if_neg (fun u => by have := hq.mpr u; omega)]
    exact x13
  · have et : t21 = if k = 1 then σ 3 c 0 else σ 0 0 0 := by
      by_cases y : k = 1
      · rw [if_pos y, h21.2 y, (row13.2.2 c c0 c1).1.2.2.1, putA_k (by decide)]
      · rw [if_neg y, h21.1 y, row13.1.1, putA_k (by decide)]
    refine layX_r (y := if k = 0 then σ 2 c 0 else σ 1 c 0) x13 c0 c1 hk ?_ ?_ ?_ (fun u => ?_) (fun u => ?_) (fun h' _ f' x' => kk h' (fun k k1 k2 => by rw [f' k k1 k2]; exact f13 k k1 k2) ?_)
    · rw [(putA_s).2.2.1]; unfold wellC at w; omega
    · rw [et]; split <;> omega
    · rw [putA_k (k := 2) (by decide), putA_k (k := 1) (by decide)]
    · rw [et, if_pos u, putA_k (by decide)]
    · rw [et, if_neg u, putA_k (by decide)]
    · unfold changeA
      rw [if_pos (hq.mp (by omega)), ← et]
      exact x'
theorem drop_r {h : HP} {π : PL} {K l : Int} {σ : ST} {P : HP → Prop} (x : RX h π K σ) (l0 : 0 ≤ l) (l1 : l < π 0 0) (k : ∀ h', (∀ k, k ≠ 56 → h' k = h k) → RX h' π K (dropQ σ l) → P h') : wX12_drop 7 l h P := by
  obtain ⟨hp, pr, inv, row⟩ := id x
  have n12 := hp.1.2.1
  unfold wX12_drop
  have loop : ∀ (d : Nat) (t : Int) (h1 : HP), (20 - t).toNat = d → 0 ≤ t → t ≤ 20 → (∀ k, k ≠ 56 → h1 k = h k) → (∀ j, ¬ (257 * l + 17 ≤ j ∧ j < 257 * l + 38) → h1 56 7 j = h 56 7 j) → wX12_drop_2 7 l (fun h6 => (0 ≤ 257 * l + 17 ∧ 257 * l + 17 < 3099) ∧ ∀ h7 : HP, h7 = up h6 56 7 (257 * l + 17) 0 → P h7) (d + 1) t h1 := by
    intro d
    induction d with
    | zero =>
      intro t h1 hd t0 t1 f1 g1
      have et : t = 20 := by omega
      subst et
      rw [wX12_drop_2]
      refine ⟨by omega, fun _ => ⟨by omega, fun h7 e7 => ?_⟩, fun c => absurd (Int.le_refl _) c⟩
      have k7 : ∀ k, k ≠ 56 → h7 k = h k := fun k hk => by rw [e7, up_k hk]; exact f1 k hk
      have en : ∀ j, ¬ (257 * l + 17 ≤ j ∧ j < 257 * l + 38) → h7 56 7 j = h 56 7 j := fun j hj => by rw [e7, up_j (by omega)]; exact g1 j hj
      refine k h7 k7 ⟨hp, pr.congr (fun k k1 k2 => k7 k (by omega)), dropQ_inv inv l, ?_⟩
      have g : ∀ k, k ≠ 6 → dropQ σ l k = σ k := fun k k1 => dropQ_k k1
      refine row.gen hp.1 (fun c i c0 c1 hi => en _ (by omega)) ?_ (fun f f0 f1 => ?_) (fun b b0 b1 => ?_) (fun b i b0 b1 i0 i1 => ?_) (g 9 (by decide)) (g 10 (by decide)) (g 11 (by decide)) (g 12 (by decide)) (g 13 (by decide)) (fun s s0 s1 => by rw [cur_eq (g 1 (by decide)) (g 2 (by decide))]; exact Int.le_refl _) (by rw [g 0 (by decide)]; exact Int.le_refl _)
      · rw [en 3084 (by omega), en 3085 (by omega), en 3086 (by omega), en 3087 (by omega), en 3088 (by omega), en 3089 (by omega), en 3090 (by omega), g 0 (by decide), g 4 (by decide)]; exact row.1
      · rw [en _ (by omega), g 8 (by decide)]; exact row.2.1 f f0 f1
      · obtain ⟨d1, d2, d3, d4, d5, d6⟩ := (row.2.2 b b0 b1).1
        rw [en (257 * b + 12) (by omega), en (257 * b + 13) (by omega), en (257 * b + 14) (by omega), en (257 * b + 15) (by omega), en (257 * b + 16) (by omega), g 1 (by decide), g 2 (by decide), g 3 (by decide), g 4 (by decide), g 5 (by decide)]
        refine ⟨d1, d2, d3, d4, d5, ?_⟩
        unfold dropQ
        by_cases y : b = l
        · subst y; rw [e7, up_eq, up_eq]
        · rw [en _ (by omega), up_i y]; exact d6
      · have qb := inv.qln b b0 b1
        unfold dropQ at i1
        by_cases y : b = l
        · subst y; rw [up_eq] at i1; omega
        · rw [up_i y] at i1
          rw [en _ (by omega), g 7 (by decide)]; exact (row.2.2 b b0 b1).2.1 i i0 i1
    | succ d ih =>
      intro t h1 hd t0 t1 f1 g1
      have hd1 : (20 - (t + 1)).toNat = d := by omega
      rw [wX12_drop_2]
      exact ⟨by omega, fun c => absurd c (by omega), fun _ => ⟨by omega, fun h3 e3 => ih (t + 1) h3 hd1 (by omega) (by omega) (fun k hk => by rw [e3, up_k hk]; exact f1 k hk) (fun j hj => by rw [e3, up_j (by omega)]; exact g1 j hj)⟩⟩
  exact ⟨_, loop _ 0 h rfl (by omega) (by omega) (fun _ _ => rfl) (fun _ _ => rfl)⟩
