/-! told: the reference -/
def TlR (h0 h : HP) (t : TT) : Prop := h 12 7 49 = t.1 ∧ (∀ i, 0 ≤ i → i < t.1 → h 70 7 i = t.2 i) ∧ (∀ k, k ≠ 12 → k ≠ 70 → h k = h0 k) ∧ (∀ j, j ≠ 49 → h 12 7 j = h0 12 7 j)
theorem sign_r {h0 h h5 h7 : HP} {v : Int} {t : TT} (q : TlR h0 h t) (e5 : h5 = up h 70 7 (h 12 7 49) v) (e7 : h7 = up h5 12 7 49 ((h5 12 7 49) + 1)) : TlR h0 h7 (sgA v t) := by
  obtain ⟨q1, q2, q3, q4⟩ := q
  rw [q1] at e5
  refine ⟨?_, fun i i0 i1 => ?_, fun k k1 k2 => by rw [e7, up_k k1, e5, up_k k2]; exact q3 k k1 k2, fun j hj => by rw [e7, up_j hj, e5, up_k (by decide)]; exact q4 j hj⟩
  · rw [e7, up_eq, e5, up_k (by decide), q1]; rfl
  · have i1' : i < t.1 + 1 := i1
    rw [e7, up_k (by decide), e5, up_ji]
    show _ = if i = t.1 then v else t.2 i
    by_cases z : i = t.1
    · rw [if_pos z, if_pos z]
    · rw [if_neg z, if_neg z]; exact q2 i i0 (by omega)
theorem say_r {h0 h : HP} {s : Int} {n : Nat} {t : TT} {P : HP → Prop} (q : TlR h0 h t) (hs : strL s = n) (hn : n ≤ 6) (ht : 0 ≤ t.1 ∧ t.1 + n ≤ 100) (k : ∀ h', TlR h0 h' (strA s t n) → P h') : wX12_say 7 s h P := by
  unfold wX12_say
  have loop : ∀ (d m : Nat) (hh : HP), n - m = d → m ≤ n → TlR h0 hh (strA s t m) → wX12_say_2 7 s (fun h9 => P h9) (d + 1) m hh := by
    intro d
    induction d with
    | zero =>
      intro m hh hd hm tq
      have e : m = n := by omega
      subst e
      rw [wX12_say_2, hs]
      exact ⟨by omega, by omega, fun _ => k hh tq, fun z => absurd (Int.le_refl _) z⟩
    | succ d ih =>
      intro m hh hd hm tq
      have l := strA_len (s := s) (t := t) m
      have q1 := tq.1
      rw [wX12_say_2, hs]
      refine ⟨by omega, by omega, fun z => absurd z (by omega), fun _ => ⟨by omega, by omega, fun h5 e5 h7 e7 => ?_⟩⟩
      exact ih (m + 1) h7 (by omega) (by omega) (sign_r tq e5 e7)
  exact ⟨_, loop n 0 h rfl (by omega) q⟩
theorem sayNum_r {h0 h : HP} {v : Int} {t : TT} {P : HP → Prop} (q : TlR h0 h t) (hv : 0 ≤ v ∧ v ≤ 999) (ht : 0 ≤ t.1 ∧ t.1 + 4 ≤ 100) (k : ∀ h', TlR h0 h' (numA v t) → P h') : wX12_sayNumber 7 v h P := by
  have q0 := q.1
  unfold wX12_sayNumber
  refine ⟨by omega, fun h1 e1 h3 e3 => ⟨⟨by omega, fun _ => by omega⟩, fun t6 h6 => ?_⟩⟩
  have q3 : TlR h0 h3 (sgA 32 t) := sign_r q e1 e3
  have s1 : (sgA 32 t).1 = t.1 + 1 := rfl
  -- the last sign
  have last : ∀ (f : Nat) (hh : HP) (t' : TT), TlR h0 hh t' → (0 ≤ t'.1 ∧ t'.1 < 100) → sgA (48 + v % 10) t' = numA v t → wX12_sayNumber_45 7 v (fun h18 => P h18) (f + 2) 1 hh := by
    intro f hh t' tq l e
    have q1 := tq.1
    rw [wX12_sayNumber_45]
    refine ⟨by omega, fun z => by omega, fun _ => ⟨by omega, by omega, by omega, by omega, fun h13 e13 h15 e15 => ⟨by omega, ?_⟩⟩⟩
    have tq' := sign_r tq e13 e15
    rw [show v / 1 = v by omega, e] at tq'
    rw [show (1 : Int) / 10 = 0 by rfl, wX12_sayNumber_45]
    exact ⟨by omega, fun _ => k h15 tq', fun z => absurd (Int.le_refl _) z⟩
  have two : ∀ (f : Nat) (hh : HP) (t' : TT), TlR h0 hh t' → (0 ≤ t'.1 ∧ t'.1 < 99) → sgA (48 + v % 10) (sgA (48 + v / 10 % 10) t') = numA v t → wX12_sayNumber_45 7 v (fun h18 => P h18) (f + 3) 10 hh := by
    intro f hh t' tq l e
    have q1 := tq.1
    rw [wX12_sayNumber_45]
    refine ⟨by omega, fun z => by omega, fun _ => ⟨by omega, by omega, by omega, by omega, fun h13 e13 h15 e15 => ⟨by omega, ?_⟩⟩⟩
    rw [show (10 : Int) / 10 = 1 by rfl]
    exact last f h15 _ (sign_r tq e13 e15) (by show 0 ≤ t'.1 + 1 ∧ t'.1 + 1 < 100; omega) e
  by_cases z1 : v ≤ 9
  · have e : t6 = 1 := (h6.1 (by omega)).1 z1
    rw [e]
    exact ⟨2, last 0 h3 _ q3 (by omega) (by unfold numA; rw [if_pos (by omega), if_pos (by omega)])⟩
  · by_cases z2 : v ≤ 99
    · have e : t6 = 10 := (h6.1 z2).2 z1
      rw [e]
      exact ⟨3, two 0 h3 _ q3 (by omega) (by unfold numA; rw [if_neg (by omega), if_pos (by omega)])⟩
    · have e : t6 = 100 := h6.2 z2
      have q31 := q3.1
      rw [e]
      refine ⟨4, ?_⟩
      rw [wX12_sayNumber_45]
      refine ⟨by omega, fun z => by omega, fun _ => ⟨by omega, by omega, by omega, by omega, fun h13 e13 h15 e15 => ⟨by omega, ?_⟩⟩⟩
      rw [show (100 : Int) / 10 = 10 by rfl]
      exact two 0 h15 _ (sign_r q3 e13 e15) (by show 0 ≤ t.1 + 1 + 1 ∧ t.1 + 1 + 1 < 99; omega) (by unfold numA; rw [if_neg (by omega), if_neg (by omega)])
theorem words {t : TT} (k : Nat) (hk : k ≤ 2) : strA k (strA 8 t 1) 5 = strA (9 + k) t 6 := by
  have : k = 0 ∨ k = 1 ∨ k = 2 := by omega
  rcases this with u | u | u <;> subst u <;> rfl
theorem RX.tl {h h' : HP} {π : PL} {K : Int} {σ : ST} {t : TT} (x : RX h π K σ) (q : TlR h h' t) : RX h' π K σ := ⟨x.1, x.2.1.congr (fun k k1 k2 => q.2.2.1 k (by omega) (by omega)), x.2.2.1, by rw [q.2.2.1 56 (by decide) (by decide)]; exact x.2.2.2⟩
theorem told_r {h : HP} {π : PL} {K c i : Int} {σ : ST} {P : Int → HP → Prop} (x0 : RY h π K σ) (hc : inR c) (hi : inR i)
    (k : ∀ h' y e v, OkR h h' e → toldV π σ c i = (e, v) → (e = 0 → y = v) → P y h') : wX12_told 7 c i h P := by
  unfold wX12_told
  intro h1 e1
  have o1 : OkR h h1 0 := by rw [e1]; exact OkR.start x0.2 0
  have y1 := x0.ok o1
  have x := y1.1
  have n12 := x.1.1.2.1
  refine isClass_r x.1 x.2.1 hc (fun y hy hq => ⟨by omega, fun z h6 e6 => ?_, fun z => fail_r (k _ 0 1 0 (o1.fail 1) (by unfold toldV; rw [if_neg (fun u => by have := hq.mpr u.1; omega)]) (fun z => by omega))⟩)
  have cc := hq.mp (by omega)
  have q6 : TlR h1 h6 (0, fun _ => 0) := ⟨by rw [e6, up_eq], fun i i0 i1 => by have i1' : i < (0 : Int) := i1; omega, fun k k1 _ => by rw [e6, up_k k1], fun j hj => by rw [e6, up_j hj]⟩
  have hl := hdT_len (π := π) (c := c)
  have l5 : (strA 3 ((0 : Int), fun _ => (0 : Int)) 5).1 = 5 := strA_len 5
  have rq := rc_eq x.1.1 (c := c) (i := 12) cc.1 cc.2 (Or.inr rfl)
  have r12 : rc 12 = -1 := rfl
  rw [r12] at rq
  have pk := par_ok x.1.1 cc.1 cc.2
  have rr : -1 ≤ rc (π 1 c) ∧ rc (π 1 c) < 12 := by unfold rc; split <;> omega
  refine say_r (n := 5) q6 rfl (by omega) ⟨Int.le_refl (0 : Int), by show (0 : Int) + 5 ≤ 100; omega⟩ (fun h7 q7 => ?_)
  have e50 := (x.tl q7).2.1.par cc.1 cc.2
  rw [e50]
  have go : ∀ hh, TlR h1 hh (hdT π c) → wX12_told_57 7 c i P hh := by
    intro hh qh
    unfold wX12_told_57
    have loop : ∀ (Ko : HP → Prop), (∀ h', TlR h1 h' (cursT σ c (hdT π c) 3) → Ko h') → ∀ (d m : Nat) (hh : HP), 3 - m = d → m ≤ 3 → TlR h1 hh (cursT σ c (hdT π c) m) → wX12_told_59 7 c i Ko (d + 1) m hh := by
      intro Ko hKo d
      induction d with
      | zero =>
        intro m hh hd hm tq
        have e : m = 3 := by omega
        subst e
        rw [wX12_told_59]
        exact ⟨by omega, fun _ => hKo hh tq, fun z => absurd (by omega) z⟩
      | succ d ih =>
        intro m hh hd hm tq
        have cl := cursT_len (σ := σ) (c := c) (t := hdT π c) m
        have xh := x.tl tq
        rw [wX12_told_59]
        refine ⟨by omega, fun z => absurd z (by omega), fun _ => hasCurve_r xh (k := (m : Int)) cc.1 cc.2 (by omega) (fun y2 hy2 hq2 => ⟨by omega, fun z => ?_, fun z => ?_⟩)⟩
        · have hm0 := hq2.mp (by omega)
          have ww := (x.2.2.1.2.2.2.2.2.2.2.2.2 (3 * c + m) (by omega) (by omega)).1.2 hm0
          unfold wellC at ww
          have l1 := strA_len (s := 8) (t := cursT σ c (hdT π c) m) 1
          refine say_r (n := 1) tq rfl (by omega) (by omega) (fun h17 q17 => ⟨by omega, ?_⟩)
          have sL : strL m = 5 := by
            have : m = 0 ∨ m = 1 ∨ m = 2 := by omega
            rcases this with u | u | u <;> subst u <;> rfl
          have l2 := strA_len (s := m) (t := strA 8 (cursT σ c (hdT π c) m) 1) 5
          refine say_r (n := 5) q17 sL (by omega) (by omega) (fun h19 q19 => ⟨4, ?_⟩)
          rw [words m (by omega)] at q19 l2
          have row : ∀ ha t', TlR h1 ha t' → ha 56 7 (257 * c + 4 * m + 1) = σ 9 (3 * c + m) 0 ∧ ha 56 7 (257 * c + 4 * m + 2) = σ 10 (3 * c + m) 0 ∧ ha 56 7 (257 * c + 4 * m + 3) = σ 11 (3 * c + m) 0 := fun ha t' qa => (((x.tl qa).2.2.2.2.2 c cc.1 cc.2).2.2 m (by omega) (by omega)).2.1 hm0
          rw [wX12_told_96]
          unfold wX12_curveAt
          dsimp only
          rw [(row h19 _ q19).1]
          have b1 := numA_len (v := σ 9 (3 * c + m) 0) (t := strA (9 + m) (cursT σ c (hdT π c) m) 6)
          refine ⟨by omega, fun u => by omega, fun _ => ⟨by omega, sayNum_r q19 (by omega) (by omega) (fun ha qa => ?_)⟩⟩
          rw [show (1 : Int) + 1 = 2 by rfl, wX12_told_96]
          unfold wX12_curveAt
          dsimp only
          rw [(row ha _ qa).2.1]
          have b2 := numA_len (v := σ 10 (3 * c + m) 0) (t := numA (σ 9 (3 * c + m) 0) (strA (9 + m) (cursT σ c (hdT π c) m) 6))
          refine ⟨by omega, fun u => by omega, fun _ => ⟨by omega, sayNum_r qa (by omega) (by omega) (fun hb' qb => ?_)⟩⟩
          rw [show (2 : Int) + 1 = 3 by rfl, wX12_told_96]
          unfold wX12_curveAt
          dsimp only
          rw [(row hb' _ qb).2.2]
          refine ⟨by omega, fun u => by omega, fun _ => ⟨by omega, sayNum_r qb (by omega) (by omega) (fun hd' qd => ?_)⟩⟩
          rw [show (3 : Int) + 1 = 4 by rfl, wX12_told_96]
          refine ⟨by omega, fun _ => ?_, fun u => absurd (Int.le_refl _) u⟩
          unfold wX12_told_125
          have e : cursT σ c (hdT π c) (m + 1) = numA (σ 11 (3 * c + m) 0) (numA (σ 10 (3 * c + m) 0) (numA (σ 9 (3 * c + m) 0) (strA (9 + m) (cursT σ c (hdT π c) m) 6))) := by
            show curT σ c m (cursT σ c (hdT π c) m) = _
            unfold curT
            rw [if_pos hm0]
          exact ih (m + 1) hd' (by omega) (by omega) (by rw [e]; exact qd)
        · unfold wX12_told_125
          have : curT σ c m (cursT σ c (hdT π c) m) = cursT σ c (hdT π c) m := by unfold curT; rw [if_neg (fun u => by have := hq2.mpr u; omega)]
          have tq' : TlR h1 hh (cursT σ c (hdT π c) (m + 1)) := by show TlR h1 hh (curT σ c m (cursT σ c (hdT π c) m)); rw [this]; exact tq
          exact ih (m + 1) hh (by omega) (by omega) tq'
    refine ⟨_, loop _ (fun h29 q29 => ?_) 3 0 hh rfl (by omega) qh⟩
    have cl := cursT_len (σ := σ) (c := c) (t := hdT π c) 3
    have tl := toldT_len (π := π) (σ := σ) (c := c)
    refine say_r (n := 1) q29 rfl (by omega) (by omega) (fun h30 q30 => ?_)
    replace q30 : TlR h1 h30 (toldT π σ c) := q30
    have f : FrQR h1 h30 := ⟨fun k k1 _ _ _ _ _ _ _ _ k10 => q30.2.2.1 k k1 k10, fun j q => q30.2.2.2 j (fun z => q (by rw [z]; unfold scrJ; omega)), fun j _ _ => by rw [q30.2.2.1 56 (by decide) (by decide)]⟩
    have ii : IdleR h30 := by
      have := y1.2
      unfold IdleR at *
      rw [q30.2.2.2 29 (by decide), q30.2.2.2 32 (by decide), q30.2.2.2 31 (by decide), q30.2.2.2 33 (by decide)]; exact this
    have ok : OkR h h30 0 := o1.two f ii (q30.2.2.2 1 (by decide))
    rw [q30.1]
    refine ⟨hi, fun z => ?_, fun z => k h30 _ 0 _ ok (by unfold toldV; rw [if_pos ⟨cc, by omega, by omega⟩, if_pos z]) (fun _ => rfl)⟩
    refine isIn_r hi (by omega) (by omega) (fun y2 hy2 hq2 => ⟨by omega, fun z2 => fail_r (k _ 0 1 0 (ok.fail 1) (by unfold toldV; rw [if_neg (fun u => by have := hq2.mpr (by omega); omega)]) (fun z => by omega)), fun z2 => ?_⟩)
    have r := hq2.mp (by omega)
    rw [q30.2.1 i r.1 (by omega)]
    exact ⟨by omega, k h30 _ 0 _ ok (by unfold toldV; rw [if_pos ⟨cc, by omega, by omega⟩, if_neg z]) (fun _ => rfl)⟩
  refine ⟨by omega, by omega, fun z => go h7 (by unfold hdT; rw [if_pos (rq.mp z)]; exact q7), fun z => ?_⟩
  have np : ¬ π 1 c = 12 := fun u => z (rq.mpr u)
  have rp : rc (π 1 c) = π 1 c := by unfold rc; rw [if_neg np]
  have l8 := strA_len (s := 6) (t := strA 3 ((0 : Int), fun _ => (0 : Int)) 5) 3
  refine say_r (n := 3) q7 rfl (by omega) (by omega) (fun h40 q40 => ?_)
  rw [(x.tl q40).2.1.par cc.1 cc.2, rp]
  exact ⟨by omega, sayNum_r q40 (by omega) (by omega) (fun h42 q42 => go h42 (by unfold hdT; rw [if_neg np]; exact q42))⟩
