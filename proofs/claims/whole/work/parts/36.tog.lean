/-! what all is granted together -/
def htA (m1 d m2 t : Int) : Int := if d < t then m1 * d + m2 * (t - d) else m1 * t
theorem htA_rng {m1 d m2 t : Int} (h1 : 0 ≤ m1 ∧ m1 ≤ 100) (h2 : 0 ≤ d) (h3 : 0 ≤ m2 ∧ m2 ≤ 100) (ht : 0 ≤ t) : 0 ≤ htA m1 d m2 t ∧ htA m1 d m2 t ≤ 100 * t := by
  unfold htA
  have a1 := Int.mul_nonneg h1.1 ht
  have a2 := Int.mul_le_mul_of_nonneg_right h1.2 ht
  have b1 := Int.mul_nonneg h1.1 h2
  have b2 := Int.mul_le_mul_of_nonneg_right h1.2 h2
  split
  · rename_i c
    have c0 : 0 ≤ t - d := by omega
    have d1 := Int.mul_nonneg h3.1 c0
    have d2 := Int.mul_le_mul_of_nonneg_right h3.2 c0
    omega
  · omega
theorem htA_step {m1 d m2 t : Int} (h : d ≤ t) : htA m1 d m2 (t + 1) = htA m1 d m2 t + m2 := by
  unfold htA
  rw [if_pos (by omega)]
  have e : m2 * (t + 1 - d) = m2 * (t - d) + m2 := by rw [show t + 1 - d = (t - d) + 1 by omega, Int.mul_add, Int.mul_one]
  by_cases c : d < t
  · rw [if_pos c, e]; omega
  · have : d = t := by omega
    subst this
    rw [if_neg c, e, Int.sub_self, Int.mul_zero]; omega
def grT (σ : ST) (t : Int) (c : Nat) : Int := if 0 < σ 11 (3 * c) 0 then htA (σ 9 (3 * c) 0) (σ 10 (3 * c) 0) (σ 11 (3 * c) 0) t else 0
def gr2 (σ : ST) (c : Nat) : Int := if 0 < σ 11 (3 * c) 0 then σ 11 (3 * c) 0 else 0
def ovA (π : PL) (σ : ST) (a b d t : Int) : Int := htA a b d t - 100 * t + sumN (grT σ t) (π 0 0).toNat
def stpA (π : PL) (σ : ST) (d : Int) : Int := sumN (gr2 σ) (π 0 0).toNat + d - 100
theorem grT_rng {π : PL} {K : Int} {σ : ST} (inv : AInv π K σ) {t : Int} (ht : 0 ≤ t) {c : Nat} (c1 : (c : Int) < π 0 0) : 0 ≤ grT σ t c ∧ grT σ t c ≤ 100 * t := by
  unfold grT
  split
  · rename_i h
    have w := (inv.2.2.2.2.2.2.2.2.2 (3 * c) (by omega) (by omega)).1.2 h
    unfold wellC at w
    exact htA_rng (by omega) (by omega) (by omega) ht
  · omega
theorem gr2_rng {π : PL} {K : Int} {σ : ST} (inv : AInv π K σ) {c : Nat} (c1 : (c : Int) < π 0 0) : 0 ≤ gr2 σ c ∧ gr2 σ c ≤ 100 := by
  unfold gr2
  split
  · rename_i h
    have w := (inv.2.2.2.2.2.2.2.2.2 (3 * c) (by omega) (by omega)).1.2 h
    unfold wellC at w
    omega
  · omega
theorem sumN_rng {f : Nat → Int} {b : Int} {m : Nat} (h : ∀ k, k < m → 0 ≤ f k ∧ f k ≤ b) : 0 ≤ sumN f m ∧ sumN f m ≤ b * m := ⟨sumN_nonneg (fun k hk => (h k hk).1), sumN_le (fun k hk => (h k hk).2)⟩
theorem grS_rng {π : PL} {K : Int} {σ : ST} (hp : PlanOK π) (inv : AInv π K σ) {t : Int} (ht : 0 ≤ t) {m : Nat} (hm : (m : Int) ≤ π 0 0) : 0 ≤ sumN (grT σ t) m ∧ sumN (grT σ t) m ≤ 1200 * t := by
  have n12 := hp.1.2.1
  have := sumN_rng (f := grT σ t) (b := 100 * t) (m := m) (fun k hk => grT_rng inv ht (by omega))
  have m2 : (100 * t) * (m : Int) ≤ (100 * t) * 12 := Int.mul_le_mul_of_nonneg_left (by omega) (by omega)
  omega
theorem sumN_add {f g e : Nat → Int} : ∀ {m : Nat}, (∀ k, k < m → e k = f k + g k) → sumN e m = sumN f m + sumN g m := by
  intro m
  induction m with
  | zero => intro _; rfl
  | succ m ih => intro h; show sumN e m + e m = (sumN f m + f m) + (sumN g m + g m); rw [ih (fun k hk => h k (by omega)), h m (by omega)]; omega
theorem ovA_step {π : PL} {K : Int} {σ : ST} (inv : AInv π K σ) {a b d t : Int} (hb : b ≤ 30) (ht : 30 ≤ t) : ovA π σ a b d (t + 1) = ovA π σ a b d t + stpA π σ d := by
  unfold ovA stpA
  rw [htA_step (by omega)]
  have : sumN (grT σ (t + 1)) (π 0 0).toNat = sumN (grT σ t) (π 0 0).toNat + sumN (gr2 σ) (π 0 0).toNat := by
    refine sumN_add (fun k hk => ?_)
    unfold grT gr2
    split
    · rename_i h
      have w := (inv.2.2.2.2.2.2.2.2.2 (3 * k) (by omega) (by omega)).1.2 h
      unfold wellC at w
      rw [htA_step (by omega)]
    · rfl
  rw [this]; omega
theorem ovA_far {π : PL} {K : Int} {σ : ST} (inv : AInv π K σ) {a b d : Int} (hb : b ≤ 30) : ∀ s : Nat, ovA π σ a b d (30 + s) = ovA π σ a b d 30 + s * stpA π σ d := by
  intro s
  induction s with
  | zero => rw [show (30 : Int) + ((0 : Nat) : Int) = 30 by omega, show ((0 : Nat) : Int) = 0 by rfl, Int.zero_mul]; omega
  | succ s ih =>
    rw [show (30 : Int) + ((s + 1 : Nat) : Int) = 30 + (s : Int) + 1 by omega, ovA_step inv hb (by omega), ih, show ((s + 1 : Nat) : Int) = (s : Int) + 1 by omega, Int.add_mul, Int.one_mul]
    omega
/-- the first time over -/
def fstN (f : Int → Int) : Nat → Int → Int
  | 0, _ => -1
  | d + 1, t => if 0 < f t then t else fstN f d (t + 1)
def foA (π : PL) (σ : ST) (a b d : Int) : Int := fstN (ovA π σ a b d) 4001 0
theorem fstN_at {f : Int → Int} : ∀ (d : Nat) (t v : Int), t ≤ v → v < t + d → 0 < f v → (∀ u, t ≤ u → u < v → f u ≤ 0) → fstN f d t = v := by
  intro d
  induction d with
  | zero => intro t v h1 h2; omega
  | succ d ih =>
    intro t v h1 h2 h3 h4
    unfold fstN
    by_cases c : t = v
    · subst c; rw [if_pos h3]
    · rw [if_neg (by have := h4 t (by omega) (by omega); omega)]
      exact ih (t + 1) v (by omega) (by omega) h3 (fun u u0 u1 => h4 u (by omega) u1)
theorem fstN_no {f : Int → Int} : ∀ (d : Nat) (t : Int), (∀ u, t ≤ u → u < t + d → f u ≤ 0) → fstN f d t = -1 := by
  intro d
  induction d with
  | zero => intro t _; rfl
  | succ d ih =>
    intro t h
    unfold fstN
    rw [if_neg (by have := h t (by omega) (by omega); omega)]
    exact ih (t + 1) (fun u u0 u1 => h u (by omega) (by omega))
/-- the class weighs -/
theorem piecesAt_c {m1 d m2 t : Int} {h : HP} {P : Int → HP → Prop} (ht : inR t) (hd : inR d) (k : P (htA m1 d m2 t) h) : wX3_piecesAt t m1 d m2 h P := by
  unfold inR at *
  unfold wX3_piecesAt
  refine ⟨⟨ht, hd⟩, fun t3 h3 => ?_⟩
  have : t3 = htA m1 d m2 t := by
    unfold htA
    by_cases c : d < t
    · rw [if_pos c, h3.1 c]
    · rw [if_neg c, h3.2 c]
  rw [this]; exact k
def Fr3 (h h' : HP) : Prop := ∀ k, k ≠ 3 → h' k = h k
theorem LX.f3 {h h' : HP} {L K : Int} {π : PL} {σ : ST} (x : LX h L π K σ) (f : Fr3 h h') : LX h' L π K σ :=
  ⟨x.1, x.2.1.congr (fun k hk => by rw [f k (by omega)]), x.2.2.1, x.2.2.2.congr (fun k hk => by rw [f k (by unfold lnK at hk; omega)])⟩
theorem sumAt_c {h : HP} {π : PL} {K t : Int} {σ : ST} {P : Int → HP → Prop} (x : LX h 10 π K σ) (ht : inR t) (k : P (sumN (grT σ t) (π 0 0).toNat) h) : wX3_sumAt 0 t h P := by
  have n0 := x.1.1.1
  have n12 := x.1.1.2.1
  have e8 := x.2.1.1.1
  unfold wX3_sumAt
  have loop : ∀ (d m : Nat), (π 0 0).toNat - m = d → m ≤ (π 0 0).toNat → wX3_sumAt_4 0 t (fun l14 h15 => P l14 h15) (d + 1) (sumN (grT σ t) m) m h := by
    intro d
    induction d with
    | zero =>
      intro m hd hm
      have e : m = (π 0 0).toNat := by omega
      subst e
      rw [wX3_sumAt_4, e8]
      exact ⟨by omega, by omega, fun _ => k, fun c => absurd (by omega) c⟩
    | succ d ih =>
      intro m hd hm
      have hn := ih (m + 1) (by omega) (by omega)
      have m1 : (m : Int) < π 0 0 := by omega
      have sl := x.slot (s := 3 * m) (by omega) (by omega)
      have cu := sl.1
      rw [wX3_sumAt_4, e8, show (m : Int) * 3 + 0 = 3 * m by omega]
      refine ⟨by omega, by omega, fun c => absurd c (by omega), fun _ => has_c (σ := σ) ⟨by omega, sl.2.2⟩ sl.1 sl.2.1 (fun y hy hq => ⟨by omega, fun z => ?_, fun z => ⟨by omega, by omega, by omega, ?_⟩⟩)⟩
      · unfold wX3_sumAt_83
        have e : sumN (grT σ t) (m + 1) = sumN (grT σ t) m := by
          show _ + grT σ t m = _
          unfold grT
          rw [if_neg (fun u => by have := hq.mpr u; omega)]; omega
        rw [e] at hn; exact hn
      · have hm2 := hq.mp (by omega)
        have w := sl.2.1.1.2 hm2
        unfold wellC at w
        rw [cu.1, cu.2.1, cu.2.2.1]
        refine piecesAt_c ht (by unfold inR; omega) ?_
        unfold wX3_sumAt_83
        have e : sumN (grT σ t) (m + 1) = sumN (grT σ t) m + htA (σ 9 (3 * m) 0) (σ 10 (3 * m) 0) (σ 11 (3 * m) 0) t := by
          show _ + grT σ t m = _
          unfold grT
          rw [if_pos hm2]
        rw [e] at hn; exact hn
  exact ⟨_, loop _ 0 rfl (by omega)⟩
theorem sum2_c {h : HP} {π : PL} {K : Int} {σ : ST} {P : Int → HP → Prop} (x : LX h 10 π K σ) (k : P (sumN (gr2 σ) (π 0 0).toNat) h) : wX3_sumOfSecond 0 h P := by
  have n0 := x.1.1.1
  have n12 := x.1.1.2.1
  have e8 := x.2.1.1.1
  unfold wX3_sumOfSecond
  have loop : ∀ (d m : Nat), (π 0 0).toNat - m = d → m ≤ (π 0 0).toNat → wX3_sumOfSecond_4 0 (fun l14 h15 => P l14 h15) (d + 1) (sumN (gr2 σ) m) m h := by
    intro d
    induction d with
    | zero =>
      intro m hd hm
      have e : m = (π 0 0).toNat := by omega
      subst e
      rw [wX3_sumOfSecond_4, e8]
      exact ⟨by omega, by omega, fun _ => k, fun c => absurd (by omega) c⟩
    | succ d ih =>
      intro m hd hm
      have hn := ih (m + 1) (by omega) (by omega)
      have m1 : (m : Int) < π 0 0 := by omega
      have sl := x.slot (s := 3 * m) (by omega) (by omega)
      have cu := sl.1
      rw [wX3_sumOfSecond_4, e8, show (m : Int) * 3 + 0 = 3 * m by omega]
      refine ⟨by omega, by omega, fun c => absurd c (by omega), fun _ => has_c (σ := σ) ⟨by omega, sl.2.2⟩ sl.1 sl.2.1 (fun y hy hq => ⟨⟨by omega, fun _ => by omega⟩, fun t8 h8 => ?_⟩)⟩
      rw [cu.2.2.1] at h8
      have e : sumN (gr2 σ) (m + 1) = sumN (gr2 σ) m + t8 := by
        show _ + gr2 σ m = _
        unfold gr2
        by_cases z : y = 0
        · rw [if_neg (fun u => by have := hq.mpr u; omega), h8.1 z]
        · rw [if_pos (hq.mp (by omega)), h8.2 z]
      rw [e] at hn; exact hn
  exact ⟨_, loop _ 0 rfl (by omega)⟩
theorem weigh_c {h : HP} {π : PL} {K a b d : Int} {σ : ST} {P : HP → Prop} (x : LX h 10 π K σ) (ra : 0 ≤ a ∧ a ≤ 100) (rb : 0 ≤ b ∧ b ≤ 30) (rd : 0 ≤ d ∧ d ≤ 100)
    (k : ∀ h', Fr3 h h' → h' 3 0 2 = foA π σ a b d → h' 3 0 3 = (if foA π σ a b d = -1 then 0 else ovA π σ a b d (foA π σ a b d)) → P h') : wX3_weigh 0 a b d h P := by
  have inv := x.2.2.1
  have n0 := x.1.1.1
  have n12 := x.1.1.2.1
  unfold wX3_weigh
  intro h1 e1 h2 e2
  have f2 : Fr3 h h2 := fun k hk => by rw [e2, up_k hk, e1, up_k hk]
  have x2 := x.f3 f2
  have a2 : h2 3 0 2 = -1 := by rw [e2, up_j (by decide), e1, up_eq]
  have a3 : h2 3 0 3 = 0 := by rw [e2, up_eq]
  have rng : ∀ t, 0 ≤ t → t ≤ 30 → -3000 ≤ ovA π σ a b d t ∧ ovA π σ a b d t ≤ 39000 := by
    intro t t0 t1
    have g := grS_rng x.1 inv t0 (m := (π 0 0).toNat) (by omega)
    have hh := htA_rng ra rb.1 rd t0
    unfold ovA
    omega
  have loop : ∀ (dd : Nat) (t room : Int), (31 - t).toNat = dd → 0 ≤ t → t ≤ 31 → (0 < t → room = - ovA π σ a b d (t - 1)) → (∀ u, 0 ≤ u → u < t → ovA π σ a b d u ≤ 0) →
      wX3_weigh_16 0 a b d (fun l12 h13 => wX3_sumOfSecond 0 h13 (fun x15 h14 => (-2147483648 ≤ (x15 + d) - 100 ∧ (x15 + d) - 100 < 2147483648) ∧ (((x15 + d) - 100 ≤ 0 → P h14) ∧ (¬ (x15 + d) - 100 ≤ 0 → (0 ≤ l12 ∧ l12 < 2147483648) ∧ (0 < (x15 + d) - 100 ∧ (x15 + d) - 100 < 2147483648) ∧ ∀ h20 : HP, h20 = up h14 3 0 2 (30 + ((l12 / ((x15 + d) - 100)) + 1)) → ∀ h21 : HP, h21 = up h20 3 0 3 ((((l12 / ((x15 + d) - 100)) + 1) * ((x15 + d) - 100)) - l12) → P h21)))) (fun l22 l23 h24 => ∀ h25 : HP, h25 = up h24 3 0 2 l23 → ∀ h26 : HP, h26 = up h25 3 0 3 (-l22) → P h26) (dd + 1) room t h2 := by
    intro dd
    induction dd with
    | zero =>
      intro t room hd t0 t1 hr hu
      have et : t = 31 := by omega
      subst et
      have er := hr (by omega)
      have o30 := hu 30 (by omega) (by omega)
      rw [show (31 : Int) - 1 = 30 by rfl] at er
      rw [wX3_weigh_16]
      refine ⟨by omega, fun _ => sum2_c x2 ?_, fun c => absurd (by omega) c⟩
      have g2 := sumN_rng (f := gr2 σ) (b := 100) (m := (π 0 0).toNat) (fun k hk => gr2_rng inv (by omega))
      have es : sumN (gr2 σ) (π 0 0).toNat + d - 100 = stpA π σ d := rfl
      have gs : -100 ≤ stpA π σ d ∧ stpA π σ d ≤ 1200 := by rw [← es]; omega
      have r30 := rng 30 (by omega) (by omega)
      rw [es]
      refine ⟨by omega, fun c => ?_, fun c => ⟨by omega, by omega, fun h20 e20 h21 e21 => ?_⟩⟩
      · have ef : foA π σ a b d = -1 := by
          refine fstN_no 4001 0 (fun u u0 u1 => ?_)
          by_cases z : u < 31
          · exact hu u u0 z
          · have := ovA_far (a := a) (d := d) inv rb.2 (u - 30).toNat
            rw [show (30 : Int) + ((u - 30).toNat : Int) = u by omega] at this
            have m := Int.mul_le_mul_of_nonneg_left c (show (0 : Int) ≤ ((u - 30).toNat : Int) by omega)
            rw [Int.mul_zero] at m
            omega
        exact k h2 f2 (by rw [ef]; exact a2) (by rw [ef, if_pos rfl]; exact a3)
      · have sp : 0 < stpA π σ d := by omega
        have dm := Int.emod_add_mul_ediv room (stpA π σ d)
        have ml := Int.emod_lt_of_pos room sp
        have mn := Int.emod_nonneg room (show stpA π σ d ≠ 0 by omega)
        have q0 : 0 ≤ room / stpA π σ d := Int.ediv_nonneg (by omega) (by omega)
        have q1 : room / stpA π σ d ≤ room := Int.ediv_le_self _ (by omega)
        have eN : (((room / stpA π σ d + 1).toNat : Nat) : Int) = room / stpA π σ d + 1 := Int.toNat_of_nonneg (by omega)
        have ov : ovA π σ a b d (30 + (room / stpA π σ d + 1)) = (room / stpA π σ d + 1) * stpA π σ d - room := by
          have := ovA_far (a := a) (d := d) inv rb.2 (room / stpA π σ d + 1).toNat
          rw [eN] at this
          rw [this]; omega
        have pm : (room / stpA π σ d + 1) * stpA π σ d = stpA π σ d * (room / stpA π σ d) + stpA π σ d := by rw [Int.add_mul, Int.one_mul, Int.mul_comm]
        have ef : foA π σ a b d = 30 + (room / stpA π σ d + 1) := by
          refine fstN_at 4001 0 _ (by omega) (by omega) (by rw [ov]; omega) (fun u u0 u1 => ?_)
          by_cases z : u < 31
          · exact hu u u0 z
          · have := ovA_far (a := a) (d := d) inv rb.2 (u - 30).toNat
            rw [show (30 : Int) + ((u - 30).toNat : Int) = u by omega] at this
            have m := Int.mul_le_mul_of_nonneg_right (show ((u - 30).toNat : Int) ≤ room / stpA π σ d by omega) (show 0 ≤ stpA π σ d by omega)
            rw [Int.mul_comm (room / stpA π σ d)] at m
            omega
        refine k h21 (fun k hk => by rw [e21, up_k hk, e20, up_k hk]; exact f2 k hk) (by rw [e21, up_j (by decide), e20, up_eq, ef]) ?_
        rw [e21, up_eq, ef, if_neg (by omega), ov]
    | succ dd ih =>
      intro t room hd t0 t1 hr hu
      have r := rng t t0 (by omega)
      have hd1 : (31 - (t + 1)).toNat = dd := by omega
      rw [wX3_weigh_16]
      refine ⟨by omega, fun c => absurd c (by omega), fun _ => sumAt_c x2 (by unfold inR; omega) (piecesAt_c (by unfold inR; omega) (by unfold inR; omega) ?_)⟩
      have er : 100 * t - sumN (grT σ t) (π 0 0).toNat - htA a b d t = - ovA π σ a b d t := by unfold ovA; omega
      rw [er]
      refine ⟨by omega, fun c => ih (t + 1) _ hd1 (by omega) (by omega) (fun _ => by rw [show t + 1 - 1 = t by omega]) (fun u u0 u1 => ?_), fun c h25 e25 h26 e26 => ?_⟩
      · by_cases z : u = t
        · rw [z]; omega
        · exact hu u u0 (by omega)
      · have ef : foA π σ a b d = t := fstN_at 4001 0 t t0 (by omega) (by omega) (fun u u0 u1 => hu u u0 u1)
        refine k h26 (fun k hk => by rw [e26, up_k hk, e25, up_k hk]; exact f2 k hk) (by rw [e26, up_j (by decide), e25, up_eq, ef]) ?_
        rw [e26, up_eq, ef, if_neg (by omega)]; omega
  exact ⟨_, loop _ 0 0 rfl (by omega) (by omega) (fun u => by omega) (fun u u0 u1 => by omega)⟩
def foOK (π : PL) (σ : ST) (a b d : Int) : Prop := (foA π σ a b d = -1 ∨ (0 ≤ foA π σ a b d ∧ foA π σ a b d ≤ 4000 ∧ 0 < ovA π σ a b d (foA π σ a b d)))
theorem fstN_rng {f : Int → Int} : ∀ (d : Nat) (t : Int), fstN f d t = -1 ∨ (t ≤ fstN f d t ∧ fstN f d t < t + d ∧ 0 < f (fstN f d t)) := by
  intro d
  induction d with
  | zero => intro t; exact Or.inl rfl
  | succ d ih =>
    intro t
    unfold fstN
    by_cases c : 0 < f t
    · rw [if_pos c]; exact Or.inr ⟨by omega, by omega, c⟩
    · rw [if_neg c]
      rcases ih (t + 1) with h | h
      · exact Or.inl h
      · exact Or.inr ⟨by omega, by omega, h.2.2⟩
theorem foA_ok (π : PL) (σ : ST) (a b d : Int) : foOK π σ a b d := by
  unfold foOK foA
  rcases fstN_rng (f := ovA π σ a b d) 4001 0 with h | h
  · exact Or.inl h
  · exact Or.inr ⟨h.1, by omega, h.2.2⟩
/-- the greatest that may be granted more -/
def tgN (π : PL) (σ : ST) (b d : Int) : Nat → Int
  | 0 => -1
  | m + 1 => if foA π σ m b d = -1 then m else tgN π σ b d m
theorem Fr3.q {h h' : HP} (f : Fr3 h h') : FrQC h h' := fun k i q _ _ => by rw [f k (fun z => q (by rw [z]; unfold sctK; omega))]
theorem greatest_c {h : HP} {π : PL} {K b d : Int} {σ : ST} {P : Int → HP → Prop} (x : LX h 10 π K σ) (rb : 0 ≤ b ∧ b ≤ 30) (rd : 0 ≤ d ∧ d ≤ 100) (k : ∀ h', Fr3 h h' → P (tgN π σ b d 101) h') : wX3_greatestMore 0 b d h P := by
  unfold wX3_greatestMore
  have loop : ∀ (m : Nat) (h1 : HP), m ≤ 101 → Fr3 h h1 → tgN π σ b d m = tgN π σ b d 101 → wX3_greatestMore_3 0 b d (fun h7 => P (-1) h7) (fun l8 h9 => P l8 h9) (m + 1) ((m : Int) - 1) h1 := by
    intro m
    induction m with
    | zero =>
      intro h1 hm f e
      rw [wX3_greatestMore_3]
      refine ⟨by omega, fun _ => ?_, fun c => by omega⟩
      have : (-1 : Int) = tgN π σ b d 101 := e
      rw [this]; exact k h1 f
    | succ m ih =>
      intro h1 hm f e
      rw [wX3_greatestMore_3, show ((m + 1 : Nat) : Int) - 1 = m by omega]
      refine ⟨by omega, fun c => by omega, fun _ => weigh_c (x.f3 f) (by omega) rb rd (fun h' f' e2 _ => ?_)⟩
      have ok := foA_ok π σ m b d
      unfold foOK at ok
      have ff : Fr3 h h' := fun k hk => by rw [f' k hk, f k hk]
      rw [e2]
      refine ⟨by omega, fun c => ?_, fun c => ?_⟩
      · rw [show (m : Int) + -1 = (m : Int) - 1 by omega]
        refine ih h' (by omega) ff ?_
        rw [← e]
        show tgN π σ b d m = (if foA π σ m b d = -1 then (m : Int) else tgN π σ b d m)
        rw [if_neg c]
      · have : (m : Int) = tgN π σ b d 101 := by
          rw [← e]
          show (m : Int) = (if foA π σ m b d = -1 then (m : Int) else tgN π σ b d m)
          rw [if_pos c]
        rw [this]; exact k h' ff
  have := loop 101 h (by omega) (fun _ _ => rfl) rfl
  exact ⟨_, this⟩
noncomputable def togV (π : PL) (σ : ST) (a : Int) : Int × Int := if 0 ≤ a ∧ a ≤ 2 then (0, if a = 0 then (if foA π σ 0 0 0 = -1 then 1 else 0) else if a = 1 then foA π σ 0 0 0 else if foA π σ 0 0 0 = -1 then 0 else ovA π σ 0 0 0 (foA π σ 0 0 0)) else (1, 0)
theorem together_c {h : HP} {π : PL} {K a : Int} {σ : ST} {P : Int → HP → Prop} {X : Nat → HP → Prop} (x : LX h 10 π K σ) (ha : inR a)
    (k : ∀ h' v, FrQC h h' → togV π σ a = (0, v) → P v h') (kx : ∀ h', FrQC h h' → togV π σ a = (1, 0) → X 0 h') : wX11_together 0 a h P X := by
  unfold wX11_together
  refine ⟨ha, fun c => kx h (FrQC.rf h) (by unfold togV; rw [if_neg (by omega)]), fun c => ⟨ha, fun c2 => ?_, fun c2 => kx h (FrQC.rf h) (by unfold togV; rw [if_neg (by omega)])⟩⟩
  unfold wX3_answer
  refine weigh_c x (by omega) (by omega) (by omega) (fun h' f e2 e3 => ?_)
  have ok := foA_ok π σ 0 0 0
  unfold foOK at ok
  have ev : ∀ v, (if a = 0 then (if foA π σ 0 0 0 = -1 then 1 else 0) else if a = 1 then foA π σ 0 0 0 else if foA π σ 0 0 0 = -1 then 0 else ovA π σ 0 0 0 (foA π σ 0 0 0)) = v → P v h' := fun v e => k h' v f.q (by unfold togV; rw [if_pos (by omega), e])
  rw [e2, e3]
  refine ⟨ha, fun c0 => ⟨ha, fun t5 h5 => ev t5 ?_⟩, fun c0 => ⟨by omega, fun t10 h10 => ev t10 ?_⟩⟩
  · rw [if_neg c0]
    by_cases c1 : a = 1
    · rw [if_pos c1, h5.2 c1]
    · rw [if_neg c1, h5.1 c1]
  · rw [if_pos c0]
    by_cases c1 : foA π σ 0 0 0 = -1
    · rw [if_pos c1, h10.2 c1]
    · rw [if_neg c1, h10.1 c1]
noncomputable def tgV (π : PL) (σ : ST) (b d : Int) : Int × Int := if (0 ≤ b ∧ b ≤ 30) ∧ 1 ≤ d ∧ d ≤ 100 then (0, tgN π σ b d 101) else (1, 0)
theorem toGrant_c {h : HP} {π : PL} {K b d : Int} {σ : ST} {P : Int → HP → Prop} {X : Nat → HP → Prop} (x : LX h 10 π K σ) (hb : inR b) (hd : inR d)
    (k : ∀ h' v, FrQC h h' → tgV π σ b d = (0, v) → P v h') (kx : ∀ h', FrQC h h' → tgV π σ b d = (1, 0) → X 1 h') : wX11_toGrant 0 b d h P X := by
  unfold wX11_toGrant
  refine isWell_s (by unfold inR; omega) hb hd (fun y hy hq => ?_)
  unfold wellC at hq
  refine ⟨by omega, fun z => ?_, fun z => kx h (FrQC.rf h) (by unfold tgV; rw [if_neg (fun u => by have := hq.mpr (by omega); omega)])⟩
  have w := hq.mp (by omega)
  exact greatest_c x (by omega) (by omega) (fun h' f => k h' _ f.q (by unfold tgV; rw [if_pos (by omega)]))
/-! the reference weighs -/
theorem height_r {m1 d m2 t : Int} {h : HP} {P : Int → HP → Prop} (ht : inR t) (hd : inR d) (k : P (htA m1 d m2 t) h) : wX12_heightOf m1 d m2 t h P := by
  unfold inR at *
  unfold wX12_heightOf
  refine ⟨⟨ht, hd⟩, fun t3 h3 => ?_⟩
  have : t3 = htA m1 d m2 t := by
    unfold htA
    by_cases c : d < t
    · rw [if_pos c, h3.1 (by omega)]
    · rw [if_neg c]
      by_cases c2 : d ≤ t
      · have e : d = t := by omega
        subst e
        rw [h3.1 c2, Int.sub_self, Int.mul_zero]; omega
      · rw [h3.2 c2]
  rw [this]; exact k
theorem overBy_r {h : HP} {π : PL} {K a b d t : Int} {σ : ST} {P : Int → HP → Prop} (x : RX h π K σ) (ht : 0 ≤ t ∧ t ≤ 4000) (rb : 0 ≤ b ∧ b ≤ 30) (k : P (ovA π σ a b d t) h) : wX12_overBy 7 t a b d h P := by
  have n0 := x.1.1.1
  have n12 := x.1.1.2.1
  have e49 := x.2.1.1.1
  unfold wX12_overBy
  refine height_r (by unfold inR; omega) (by unfold inR; omega) ?_
  have loop : ∀ (dd m : Nat), (π 0 0).toNat - m = dd → m ≤ (π 0 0).toNat → wX12_overBy_18 7 t a b d (fun l17 h18 => P l17 h18) (dd + 1) (htA a b d t - 100 * t + sumN (grT σ t) m) m h := by
    intro dd
    induction dd with
    | zero =>
      intro m hd hm
      have e : m = (π 0 0).toNat := by omega
      subst e
      rw [wX12_overBy_18, e49]
      exact ⟨by omega, by omega, fun _ => k, fun c => absurd (by omega) c⟩
    | succ dd ih =>
      intro m hd hm
      have hn := ih (m + 1) (by omega) (by omega)
      have m1 : (m : Int) < π 0 0 := by omega
      have cu := (x.2.2.2.2.2 m (by omega) m1).2.2 0 (by omega) (by omega)
      have w := (x.2.2.1.2.2.2.2.2.2.2.2.2 (3 * m) (by omega) (by omega)).1
      unfold CurveR at cu
      rw [show 3 * (m : Int) + 0 = 3 * m by omega] at cu
      rw [wX12_overBy_18, e49]
      unfold wX12_curveAt
      dsimp only
      rw [cu.1]
      refine ⟨by omega, by omega, fun c => absurd c (by omega), fun _ => ⟨by omega, by split <;> omega, fun c => ?_, fun c => ⟨by omega, by omega, by omega, ?_⟩⟩⟩
      · have hm0 : ¬ 0 < σ 11 (3 * m) 0 := fun u => c (by rw [if_pos u])
        unfold wX12_overBy_84
        have e : sumN (grT σ t) (m + 1) = sumN (grT σ t) m := by
          show _ + grT σ t m = _
          unfold grT
          rw [if_neg hm0]; omega
        rw [e] at hn; exact hn
      · have hm0 : 0 < σ 11 (3 * m) 0 := by
          by_cases u : 0 < σ 11 (3 * m) 0
          · exact u
          · rw [if_neg u] at c; omega
        obtain ⟨f1, f2, f3⟩ := cu.2.1 hm0
        have ww := w.2 hm0
        unfold wellC at ww
        rw [f1, f2, f3]
        refine height_r (by unfold inR; omega) (by unfold inR; omega) ?_
        unfold wX12_overBy_84
        have e : sumN (grT σ t) (m + 1) = sumN (grT σ t) m + htA (σ 9 (3 * m) 0) (σ 10 (3 * m) 0) (σ 11 (3 * m) 0) t := by
          show _ + grT σ t m = _
          unfold grT
          rw [if_pos hm0]
        rw [e, ← Int.add_assoc] at hn; exact hn
  have := loop _ 0 rfl (by omega)
  have e0 : htA a b d t - 100 * t + sumN (grT σ t) 0 = htA a b d t - 100 * t := by show _ + (0 : Int) = _; omega
  rw [e0] at this
  exact ⟨_, this⟩
theorem firstOver_r {h : HP} {π : PL} {K a b d : Int} {σ : ST} {P : Int → HP → Prop} (x : RX h π K σ) (ra : 0 ≤ a ∧ a ≤ 100) (rb : 0 ≤ b ∧ b ≤ 30) (rd : 0 ≤ d ∧ d ≤ 100) (k : P (foA π σ a b d) h) : wX12_firstOver 7 a b d h P := by
  unfold wX12_firstOver
  have rng : ∀ t, 0 ≤ t → t ≤ 4000 → -400000 ≤ ovA π σ a b d t ∧ ovA π σ a b d t ≤ 5200000 := by
    intro t t0 t1
    have n0 := x.1.1.1
    have g := grS_rng x.1 x.2.2.1 t0 (m := (π 0 0).toNat) (by omega)
    have hh := htA_rng ra rb.1 rd t0
    unfold ovA
    omega
  have loop : ∀ (dd : Nat) (t : Int), (4001 - t).toNat = dd → 0 ≤ t → t ≤ 4001 → fstN (ovA π σ a b d) dd t = foA π σ a b d → wX12_firstOver_3 7 a b d (fun h8 => P (-1) h8) (fun l9 h10 => P l9 h10) (dd + 1) t h := by
    intro dd
    induction dd with
    | zero =>
      intro t hd t0 t1 e
      rw [wX12_firstOver_3]
      refine ⟨by omega, fun _ => ?_, fun c => absurd (by omega) c⟩
      have : (-1 : Int) = foA π σ a b d := e
      rw [this]; exact k
    | succ dd ih =>
      intro t hd t0 t1 e
      have hd1 : (4001 - (t + 1)).toNat = dd := by omega
      have r := rng t t0 (by omega)
      unfold fstN at e
      rw [wX12_firstOver_3]
      refine ⟨by omega, fun c => absurd c (by omega), fun _ => overBy_r x (by omega) rb ⟨by omega, fun c => ?_, fun c => ?_⟩⟩
      · rw [if_neg (by omega)] at e
        exact ih (t + 1) hd1 (by omega) (by omega) e
      · rw [if_pos (by omega)] at e
        rw [e]; exact k
  exact ⟨_, loop _ 0 rfl (by omega) (by omega) rfl⟩
theorem together_r {h : HP} {π : PL} {K a : Int} {σ : ST} {P : Int → HP → Prop} (x0 : RY h π K σ) (ha : inR a)
    (k : ∀ h' y e v, OkR h h' e → togV π σ a = (e, v) → (e = 0 → y = v) → P y h') : wX12_together 7 a h P := by
  unfold wX12_together
  intro h1 e1
  have o1 : OkR h h1 0 := by rw [e1]; exact OkR.start x0.2 0
  have x := (x0.ok o1).1
  refine isIn_r ha (by omega) (by omega) (fun y hy hq => ⟨by omega, fun z => ?_, fun z => fail_r (k _ 0 1 0 (o1.fail 1) (by unfold togV; rw [if_neg (fun u => by have := hq.mpr u; omega)]) (fun z => by omega))⟩)
  have ra := hq.mp (by omega)
  have ok := foA_ok π σ 0 0 0
  unfold foOK at ok
  refine firstOver_r x (by omega) (by omega) (by omega) ?_
  have ev : ∀ v, (if a = 0 then (if foA π σ 0 0 0 = -1 then 1 else 0) else if a = 1 then foA π σ 0 0 0 else if foA π σ 0 0 0 = -1 then 0 else ovA π σ 0 0 0 (foA π σ 0 0 0)) = v → P v h1 := fun v e => k h1 v 0 v o1 (by unfold togV; rw [if_pos ra, e]) (fun _ => rfl)
  refine ⟨ha, fun c0 => ⟨ha, fun c1 => ⟨by omega, fun c2 => overBy_r x (by omega) (by omega) (ev _ (by rw [if_neg c0, if_neg c1, if_neg c2])), fun c2 => ev _ (by rw [if_neg c0, if_neg c1, if_pos c2])⟩, fun c1 => ev _ (by rw [if_neg c0, if_pos c1])⟩, fun c0 => ⟨by omega, fun t17 h17 => ev t17 ?_⟩⟩
  rw [if_pos c0]
  by_cases c1 : foA π σ 0 0 0 = -1
  · rw [if_pos c1, h17.2 c1]
  · rw [if_neg c1, h17.1 c1]
theorem toGrant_r {h : HP} {π : PL} {K b d : Int} {σ : ST} {P : Int → HP → Prop} (x0 : RY h π K σ) (hb : inR b) (hd : inR d)
    (k : ∀ h' y e v, OkR h h' e → tgV π σ b d = (e, v) → (e = 0 → y = v) → P y h') : wX12_toGrant 7 b d h P := by
  unfold wX12_toGrant
  intro h1 e1
  have o1 : OkR h h1 0 := by rw [e1]; exact OkR.start x0.2 0
  have x := (x0.ok o1).1
  have ff : tgV π σ b d = (1, 0) → P 0 (up h1 12 7 1 1) := fun ev => k _ 0 1 0 (o1.fail 1) ev (fun z => by omega)
  refine isIn_r hb (by omega) (by omega) (fun y hy hq => ⟨by omega, fun z => fail_r (ff (by unfold tgV; rw [if_neg (fun u => by have := hq.mpr u.1; omega)])), fun z => ?_⟩)
  refine isIn_r hd (by omega) (by omega) (fun y1 hy1 hq1 => ⟨by omega, fun z1 => ?_, fun z1 => fail_r (ff (by unfold tgV; rw [if_neg (fun u => by have := hq1.mpr u.2; omega)]))⟩)
  have rb := hq.mp (by omega)
  have rd := hq1.mp (by omega)
  have loop : ∀ (dd m : Nat), 101 - m = dd → m ≤ 101 → wX12_toGrant_36 7 b d (fun l22 h23 => P l22 h23) (dd + 1) (tgN π σ b d m) m h1 := by
    intro dd
    induction dd with
    | zero =>
      intro m hd' hm
      have e : m = 101 := by omega
      subst e
      rw [wX12_toGrant_36]
      exact ⟨by omega, fun _ => k h1 _ 0 _ o1 (by unfold tgV; rw [if_pos ⟨rb, rd⟩]) (fun _ => rfl), fun c => absurd (by omega) c⟩
    | succ dd ih =>
      intro m hd' hm
      have hn := ih (m + 1) (by omega) (by omega)
      have ok := foA_ok π σ m b d
      unfold foOK at ok
      rw [wX12_toGrant_36]
      refine ⟨by omega, fun c => absurd c (by omega), fun _ => firstOver_r x (by omega) rb (by omega) ⟨by omega, fun t17 h17 => ?_⟩⟩
      have e : tgN π σ b d (m + 1) = t17 := by
        show (if foA π σ m b d = -1 then (m : Int) else tgN π σ b d m) = t17
        by_cases c : foA π σ m b d = -1
        · rw [if_pos c, h17.2 c]
        · rw [if_neg c, h17.1 c]
      rw [e] at hn; exact hn
  exact ⟨_, loop _ 0 rfl (by omega)⟩
