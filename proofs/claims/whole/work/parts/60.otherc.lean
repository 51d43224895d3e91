/-! other, look: the class -/
theorem fill_c {k0 : Nat} {i0 a : Int} {n : Nat} {h : HP} {P : HP → Prop} (c0 : kCls k0 = 99) (l0 : kLen k0 = n) (hn : n < 1000000) (k : ∀ h', (∀ k i, ¬ (k = k0 ∧ i = i0) → h' k i = h k i) → (∀ j : Int, 0 ≤ j → j < n → h' k0 i0 j = a) → P h') : wJ7_fill_53178 k0 i0 a h P := by
  unfold wJ7_fill_53178
  refine ⟨c0, ?_⟩
  have loop : ∀ (d m : Nat) (hh : HP), n - m = d → m ≤ n → (∀ k i, ¬ (k = k0 ∧ i = i0) → hh k i = h k i) → (∀ j : Int, 0 ≤ j → j < m → hh k0 i0 j = a) → wJ7_fill_53178_5 k0 i0 a k0 i0 ((kLen k0 : Nat) : Int) (fun h9 => P h9) (d + 1) m hh := by
    intro d
    induction d with
    | zero =>
      intro m hh hd hm f g
      have e : m = n := by omega
      subst e
      rw [wJ7_fill_53178_5, l0]
      exact ⟨by omega, by omega, fun _ => k hh f g, fun c => absurd (Int.le_refl _) c⟩
    | succ d ih =>
      intro m hh hd hm f g
      rw [wJ7_fill_53178_5]
      refine ⟨by omega, by omega, fun c => absurd c (by omega), fun _ => ⟨c0, by omega, fun h5 e5 => ?_⟩⟩
      refine ih (m + 1) h5 (by omega) (by omega) (fun k i q => ?_) (fun j j0 j1 => ?_)
      · rw [e5]
        by_cases y : k = k0
        · rw [up_i (fun z => q ⟨y, z⟩)]; exact f k i q
        · rw [up_k y]; exact f k i q
      · rw [e5, up_ji]
        by_cases y : j = m
        · rw [if_pos y]
        · rw [if_neg y]; exact g j j0 (by omega)
  exact ⟨_, loop n 0 h (by omega) (by omega) (fun _ _ _ => rfl) (fun j j0 j1 => by omega)⟩
theorem LineC.siz {h : HP} {L f z : Int} {π : PL} {σ : ST} (q : LineC h L π σ) : LineC (up h 32 L f z) L π (sizA σ f z) := by
  obtain ⟨⟨a1, a2, a3, a4, a5⟩, b⟩ := q
  have e : ∀ k, k ≠ 32 → up h 32 L f z k = h k := fun k hk => up_k hk
  have g : ∀ k, k ≠ 8 → sizA σ f z k = σ k := fun k hk => sizA_k hk
  refine ⟨⟨?_, fun c c0 c1 => ?_, fun c hc => ?_, fun f' f0 f1 => ?_, fun s s0 s1 => ?_⟩, fun c hc => ?_⟩
  · rw [e 6 (by decide), g 0 (by decide)]; exact a1
  · have := a2 c c0 c1
    unfold QueC at *
    rw [e 24 (by decide), e 25 (by decide), e 26 (by decide), e 28 (by decide), e 30 (by decide), e 31 (by decide), g 1 (by decide), g 2 (by decide), g 3 (by decide), g 5 (by decide), g 7 (by decide)]; exact this
  · rw [e 27 (by decide), g 4 (by decide)]; exact a3 c hc
  · unfold sizA
    by_cases y : f' = f
    · rw [y, up_eq, up_eq]
    · rw [up_j y, up_i y]; exact a4 f' f0 f1
  · have := a5 s s0 s1
    unfold CurveC LaidC ltF ltE at *
    rw [cur_eq (g 1 (by decide)) (g 2 (by decide)), e 13 (by decide), e 14 (by decide), e 15 (by decide), e 16 (by decide), e 17 (by decide), e 18 (by decide), e 19 (by decide), g 9 (by decide), g 10 (by decide), g 11 (by decide), g 12 (by decide), g 13 (by decide)]; exact this
  · rw [e 29 (by decide), hel_same (g 6 (by decide))]; exact b c hc
theorem NotesC.fq {h h' : HP} {m : Int} {nt : PL} (n : NotesC h 5 m nt) (f : FrQC h h') : NotesC h' 5 m nt :=
  n.congr (fun k hk => f k 5 (by unfold ntK at hk; unfold sctK; omega) (by unfold lnK; omega) (by omega))
def AcC (h : HP) (π : PL) (l : Int) (a : AC) : Prop := h 4 0 4 = a.1 ∧ h 4 0 5 = a.2.1 ∧ (l = 1 → ∀ c, 0 ≤ c → c < π 0 0 → h 22 0 c = a.2.2.1 c ∧ ∀ v, 0 ≤ v → v < 128 → (h 21 0 (c * 128 + v) = 0 ∨ h 21 0 (c * 128 + v) = 1) ∧ (h 21 0 (c * 128 + v) = 1 ↔ a.2.2.2 c v))
theorem AcC.fr {h h' : HP} {π : PL} {l : Int} {a : AC} (q : AcC h π l a) (f : FrL 12 h h') : AcC h' π l a := by
  unfold AcC at *
  rw [f 4 0 (by omega), f 22 0 (by omega), f 21 0 (by omega)]; exact q
theorem AcC.cg {h h' : HP} {π : PL} {l : Int} {a : AC} (q : AcC h π l a) (e4 : h' 4 = h 4) (e21 : h' 21 = h 21) (e22 : h' 22 = h 22) : AcC h' π l a := by
  unfold AcC at *
  rw [e4, e21, e22]; exact q
theorem seeSent_c {h : HP} {π : PL} {K f z : Int} {σ : ST} {a : AC} {P : HP → Prop} (x : LX h 10 π K σ) (hT : σ 0 0 0 ≤ 2000) (hz : 1 ≤ z ∧ z ≤ 64) (l12 : LineC h 12 π (goA π 50 (sizA σ f z)))
    (hU : ∀ c, 0 ≤ a.2.2.1 c ∧ a.2.2.1 c ≤ 1000)
    (q : ∀ c, 0 ≤ c → c < π 0 0 → h 22 0 c = a.2.2.1 c ∧ ∀ v, 0 ≤ v → v < 128 → (h 21 0 (c * 128 + v) = 0 ∨ h 21 0 (c * 128 + v) = 1) ∧ (h 21 0 (c * 128 + v) = 1 ↔ a.2.2.2 c v))
    (k : ∀ h', (∀ k, k ≠ 21 → k ≠ 22 → h' k = h k) → (∀ c, 0 ≤ c → c < π 0 0 → h' 22 0 c = (putO π σ f z a).2.2.1 c ∧ ∀ v, 0 ≤ v → v < 128 → (h' 21 0 (c * 128 + v) = 0 ∨ h' 21 0 (c * 128 + v) = 1) ∧ (h' 21 0 (c * 128 + v) = 1 ↔ (putO π σ f z a).2.2.2 c v)) → P h') : wX4_seeSent 0 h P := by
  have n12 := x.1.1.2.1
  have n0 := x.1.1.1
  have inv1 := sizA_inv (f := f) x.2.2.1 hz
  have rng : ∀ c, 0 ≤ c → c < π 0 0 → h 24 12 c - h 24 10 c = sntA π σ f z c ∧ (0 ≤ sntA π σ f z c ∧ sntA π σ f z c < 128) ∧ (-10000 ≤ h 24 12 c ∧ h 24 12 c ≤ 10000) ∧ (-10000 ≤ h 24 10 c ∧ h 24 10 c ≤ 10000) := by
    intro c c0 c1
    have e0 : sizA σ f z 0 = σ 0 := sizA_k (by decide)
    have e1 : sizA σ f z 1 = σ 1 := sizA_k (by decide)
    have g := goA_sent x.1 inv1 (by rw [e0]; exact hT) c0 c1 50 (by omega)
    rw [e0, e1] at g
    have br := x.2.2.1.2.1
    have b1 := (x.2.2.1.2.2.2.2.2.2.1 c c0 c1).1
    have t0 := x.2.2.1.1
    rw [(l12.1.2.1 c c0 c1).1, (x.2.2.2.1.2.1 c c0 c1).1]
    unfold sntA
    refine ⟨rfl, by omega, by omega, by omega⟩
  have pu : ∀ c, (putO π σ f z a).2.2.1 c = @ite Int (a.2.2.2 c (sntA π σ f z c)) (Classical.propDecidable _) (a.2.2.1 c) (a.2.2.1 c + 1) := fun _ => rfl
  have pv : ∀ c v, (putO π σ f z a).2.2.2 c v ↔ (a.2.2.2 c v ∨ v = sntA π σ f z c) := fun _ _ => Iff.rfl
  generalize putO π σ f z a = a' at *
  unfold wX4_seeSent
  have loop : ∀ (d : Nat) (i : Int) (hh : HP), (π 0 0 - i).toNat = d → 0 ≤ i → i ≤ π 0 0 → (∀ k, k ≠ 21 → k ≠ 22 → hh k = h k) →
      (∀ c, i ≤ c → c < π 0 0 → hh 22 0 c = a.2.2.1 c ∧ ∀ v, 0 ≤ v → v < 128 → (hh 21 0 (c * 128 + v) = 0 ∨ hh 21 0 (c * 128 + v) = 1) ∧ (hh 21 0 (c * 128 + v) = 1 ↔ a.2.2.2 c v)) →
      (∀ c, 0 ≤ c → c < i → hh 22 0 c = a'.2.2.1 c ∧ ∀ v, 0 ≤ v → v < 128 → (hh 21 0 (c * 128 + v) = 0 ∨ hh 21 0 (c * 128 + v) = 1) ∧ (hh 21 0 (c * 128 + v) = 1 ↔ a'.2.2.2 c v)) → wX4_seeSent_2 0 (fun h19 => P h19) (d + 1) i hh := by
    intro d
    induction d with
    | zero =>
      intro i hh hd i0 i1 fr qo qn
      have e : i = π 0 0 := by omega
      subst e
      rw [wX4_seeSent_2, fr 8 (by decide) (by decide), x.2.1.1.1]
      exact ⟨by omega, by omega, fun _ => k hh fr qn, fun u => absurd (Int.le_refl _) u⟩
    | succ d ih =>
      intro i hh hd i0 i1 fr qo qn
      have hd1 : (π 0 0 - (i + 1)).toNat = d := by omega
      obtain ⟨r1, r2, r3, r4⟩ := rng i i0 (by omega)
      obtain ⟨o1, o2⟩ := qo i (Int.le_refl _) (by omega)
      obtain ⟨v1, v2⟩ := o2 _ r2.1 r2.2
      have ui := hU i
      rw [wX4_seeSent_2, fr 8 (by decide) (by decide), x.2.1.1.1, fr 24 (by decide) (by decide), r1]
      unfold wX4_seeSent_78
      refine ⟨by omega, by omega, fun u => absurd u (by omega), fun _ => ⟨by omega, by omega, by omega, fun u => absurd u (by omega), fun _ => ⟨by omega, fun u => absurd u (by omega), fun _ => ⟨by omega, by omega, fun u => ?_, fun u => ⟨by omega, fun h13 e13 => ⟨by omega, by omega, fun h16 e16 => ?_⟩⟩⟩⟩⟩⟩
      · have hv : a.2.2.2 i (sntA π σ f z i) := v2.mp (by omega)
        refine ih (i + 1) hh hd1 (by omega) (by omega) fr (fun c c0 c1 => qo c (by omega) c1) (fun c c0 c1 => ?_)
        by_cases y : c = i
        · subst y
          refine ⟨by rw [pu, if_pos hv]; exact o1, fun v w0 w1 => ⟨(o2 v w0 w1).1, ?_⟩⟩
          rw [pv, (o2 v w0 w1).2]
          exact ⟨fun w => Or.inl w, fun w => by rcases w with w | w; exact w; rw [w]; exact hv⟩
        · exact qn c c0 (by omega)
      · have hv : ¬ a.2.2.2 i (sntA π σ f z i) := fun w => by have := v2.mpr w; omega
        have e21 : h16 21 0 = fun j => if j = i * 128 + sntA π σ f z i then 1 else hh 21 0 j := by
          funext j
          rw [e16, up_k (by decide), e13, up_ji]
        have e22 : h16 22 0 = fun j => if j = i then hh 22 0 i + 1 else hh 22 0 j := by
          funext j
          rw [e16, up_ji, e13, up_k (by decide)]
        refine ih (i + 1) h16 hd1 (by omega) (by omega) (fun k k1 k2 => by rw [e16, up_k k2, e13, up_k k1]; exact fr k k1 k2) (fun c c0 c1 => ?_) (fun c c0 c1 => ?_)
        · have := qo c (by omega) c1
          rw [e21, e22]
          refine ⟨?_, fun v w0 w1 => ?_⟩
          · show (if c = i then _ else _) = _
            rw [if_neg (by omega)]; exact this.1
          · show ((if c * 128 + v = _ then _ else _) = _ ∨ (if c * 128 + v = _ then _ else _) = _) ∧ ((if c * 128 + v = _ then _ else _) = _ ↔ _)
            rw [if_neg (by omega)]; exact this.2 v w0 w1
        · rw [e21, e22]
          by_cases y : c = i
          · subst y
            refine ⟨?_, fun v w0 w1 => ?_⟩
            · show (if c = c then _ else _) = _
              rw [if_pos rfl, pu, if_neg hv, o1]
            · show ((if c * 128 + v = _ then _ else _) = _ ∨ (if c * 128 + v = _ then _ else _) = _) ∧ ((if c * 128 + v = _ then _ else _) = _ ↔ _)
              rw [pv]
              by_cases w : v = sntA π σ f z c
              · rw [if_pos (by omega)]
                exact ⟨Or.inr rfl, fun _ => Or.inr w, fun _ => rfl⟩
              · rw [if_neg (by omega)]
                refine ⟨(o2 v w0 w1).1, fun u2 => Or.inl ((o2 v w0 w1).2.mp u2), fun u2 => ?_⟩
                rcases u2 with u2 | u2
                · exact (o2 v w0 w1).2.mpr u2
                · exact absurd u2 w
          · have := qn c c0 (by omega)
            refine ⟨?_, fun v w0 w1 => ?_⟩
            · show (if c = i then _ else _) = _
              rw [if_neg y]; exact this.1
            · show ((if c * 128 + v = _ then _ else _) = _ ∨ (if c * 128 + v = _ then _ else _) = _) ∧ ((if c * 128 + v = _ then _ else _) = _ ↔ _)
              rw [if_neg (by omega)]; exact this.2 v w0 w1
  exact ⟨_, loop _ 0 h rfl (by omega) (by omega) (fun _ _ _ => rfl) (fun c c0 c1 => q c c0 c1) (fun c c0 c1 => by omega)⟩
theorem take_c {h : HP} {π : PL} {K f z l b : Int} {σ : ST} {a : AC} {P : HP → Prop} (x : LX h 10 π K σ) (hT : σ 0 0 0 ≤ 2000) (hf : 0 ≤ f ∧ f < π 0 1) (hz : 1 ≤ z ∧ z ≤ 64) (hl : l = 0 ∨ l = 1) (hb : b ≤ 900) (ok : ACok b a) (q : AcC h π l a)
    (k : ∀ h', FrQC h h' → AcC h' π l (putO π σ f z a) → P h') : wX4_take 0 f z l h P := by
  have n8 := x.1.2.1
  obtain ⟨q1, q2, q3⟩ := q
  obtain ⟨o1, o2, o3, o4⟩ := id ok
  unfold wX4_take
  rw [q1, q2]
  refine ⟨by omega, fun t2 h2 h4 e4 h5 e5 => ⟨by omega, fun z0 => ?_, fun z0 => ?_⟩⟩
  all_goals
    have f5 : FrQC h h5 := by
      rw [e5, e4]
      exact (FrQC.up (by unfold sctK; omega)).tr (FrQC.up (by unfold sctK; omega))
    have c1 : h5 4 0 4 = (putO π σ f z a).1 := by
      show _ = a.1 + 1
      rw [e5, up_eq, e4, up_j (by decide), q1]
    have c2 : h5 4 0 5 = (putO π σ f z a).2.1 := by
      show _ = (if a.1 = 0 then 100 * f + z else a.2.1)
      rw [e5, up_j (by decide), e4, up_eq]
      by_cases y : a.1 = 0
      · rw [if_pos y]; exact h2.2 y
      · rw [if_neg y]; exact h2.1 y
    have g5 : ∀ k, k ≠ 4 → h5 k = h k := fun k hk => by rw [e5, up_k hk, e4, up_k hk]
  · exact k h5 f5 ⟨c1, c2, fun y => by omega⟩
  · have l1 : l = 1 := by omega
    have x5 := x.fq f5
    refine copyL_c (by decide) x.1 x5.2.1 x5.2.2.2 (fun h8 f8 l8 => ⟨by omega, fun h9 e9 => ?_⟩)
    have l9 : LineC h9 12 π (sizA σ f z) := by rw [e9]; exact l8.siz
    have f9 : FrL 12 h5 h9 := by rw [e9]; exact f8.tr (FrL.up (by unfold lnK; omega))
    have inv1 := sizA_inv (f := f) x.2.2.1 hz
    have e0 : sizA σ f z 0 = σ 0 := sizA_k (by decide)
    refine pass_c (x5.cp f9 inv1 l9) (by rw [e0]; omega) (fun h11 f11 l11 => ?_)
    have fr := f9.tr f11
    have x11 := x.fq (f5.tr fr.q)
    refine seeSent_c (a := a) (f := f) (z := z) x11 hT hz l11 (fun c => by have := o4 c; omega) (fun c c0 c1 => ?_) (fun h12 g12 r12 => ?_)
    · rw [fr 21 0 (by omega), fr 22 0 (by omega), g5 21 (by decide), g5 22 (by decide)]; exact q3 l1 c c0 c1
    · refine k h12 (f5.tr (fr.q.tr (fun k i s1 s2 s3 => by rw [g12 k (fun y => s1 (by rw [y]; unfold sctK; omega)) (fun y => s1 (by rw [y]; unfold sctK; omega))]))) ⟨?_, ?_, fun _ => r12⟩
      · rw [g12 4 (by decide) (by decide), fr 4 0 (by omega)]; exact c1
      · rw [g12 4 (by decide) (by decide), fr 4 0 (by omega)]; exact c2
theorem tryAll_c {h : HP} {π : PL} {K m l : Int} {nt : PL} {σ : ST} {P : HP → Prop} (x : LX h 10 π K σ) (hT : σ 0 0 0 ≤ 2000) (hs : szOK π σ) (hn : NotesC h 5 m nt) (ok : noteOK π m nt) (hl : l = 0 ∨ l = 1)
    (k : ∀ h', FrQC h h' → AcC h' π l (allO π σ m nt (π 0 1).toNat) → P h') : wX4_tryAll 0 l h P := by
  have n8 := x.1.2.1
  have n12 := x.1.1.2.1
  unfold wX4_tryAll
  intro h1 e1 h2 e2
  refine fill_c (n := 1536) rfl rfl (by omega) (fun h3 f3 g3 => fill_c (n := 12) rfl rfl (by omega) (fun h4 f4 g4 => ?_))
  have k4 : ∀ k i, k ≠ 4 → k ≠ 21 → k ≠ 22 → h4 k i = h k i := fun k i k1 k2 k3 => by rw [f4 k i (by omega), f3 k i (by omega), e2, up_k k1, e1, up_k k1]
  have fr4 : FrQC h h4 := fun k i s1 _ _ => k4 k i (fun y => s1 (by rw [y]; unfold sctK; omega)) (fun y => s1 (by rw [y]; unfold sctK; omega)) (fun y => s1 (by rw [y]; unfold sctK; omega))
  have ac4 : AcC h4 π l (allO π σ m nt 0) := by
    refine ⟨?_, ?_, fun _ c c0 c1 => ⟨?_, fun v v0 v1 => ?_⟩⟩
    · show _ = (0 : Int)
      rw [f4 4 0 (by omega), f3 4 0 (by omega), e2, up_j (by decide), e1, up_eq]
    · show _ = (-1 : Int)
      rw [f4 4 0 (by omega), f3 4 0 (by omega), e2, up_eq]
    · show _ = (0 : Int)
      exact g4 c c0 (by omega)
    · have e : h4 21 0 (c * 128 + v) = 0 := by rw [f4 21 0 (by omega)]; exact g3 _ (by omega) (by omega)
      rw [e]
      exact ⟨Or.inl rfl, fun u => by omega, fun u => False.elim u⟩
  have inner : ∀ (f : Nat) (Ko : HP → Prop), (f : Int) < π 0 1 → (∀ h', FrQC h h' → AcC h' π l (allO π σ m nt (f + 1)) → Ko h') → ∀ (d n : Nat) (hh : HP), 64 - n = d → n ≤ 64 → FrQC h hh → AcC hh π l (rowO π σ m nt f n (allO π σ m nt f)) → wX4_tryAll_41 0 l f Ko (d + 1) ((n : Int) + 1) hh := by
    intro f Ko hf kk d
    induction d with
    | zero =>
      intro n hh hd hn' fr ac
      have e : n = 64 := by omega
      subst e
      rw [wX4_tryAll_41]
      exact ⟨by omega, fun _ => kk hh fr ac, fun u => absurd (by omega) u⟩
    | succ d ih =>
      intro n hh hd hn' fr ac
      have xh := x.fq fr
      have pf := xh.2.1.2.2.2 f (by omega) hf
      have sz := (x.1.2.2 f (by omega) hf).2.2.2
      have es := hs f (by omega) hf
      have okr := ((ACok.all (π := π) (σ := σ) (m := m) (nt := nt) f (by omega)).row (π := π) (σ := σ) (m := m) (nt := nt) (f := f) (by omega) n hn')
      rw [wX4_tryAll_41, pf.2.2.2]
      unfold wX4_tryAll_95
      have go : ∀ h', FrQC h h' → AcC h' π l (rowO π σ m nt f (n + 1) (allO π σ m nt f)) → wX4_tryAll_41 0 l f Ko (d + 1) ((n : Int) + 1 + 1) h' := by
        intro h' f' a'
        have := ih (n + 1) h' (by omega) (by omega) f' a'
        rw [show ((n + 1 : Nat) : Int) + 1 = (n : Int) + 1 + 1 by omega] at this
        exact this
      have same : ¬ ((n : Int) + 1 ≠ σ 8 f 0 ∧ okN π σ (sizA σ f ((n : Int) + 1)) m nt) → rowO π σ m nt f (n + 1) (allO π σ m nt f) = rowO π σ m nt f n (allO π σ m nt f) := fun u => by
        show stepO π σ m nt f ((n : Int) + 1) _ = _
        unfold stepO; rw [if_neg u]
      refine ⟨by omega, fun u => absurd u (by omega), fun _ => ⟨by omega, by omega, by omega, fun u => go hh fr (by rw [same (fun w => w.1 (by omega))]; exact ac), fun u => copyL_c (by decide) x.1 xh.2.1 xh.2.2.2 (fun h14 f14 l14 => ⟨by omega, fun h15 e15 => ?_⟩)⟩⟩
      have l15 : LineC h15 12 π (sizA σ f ((n : Int) + 1)) := by rw [e15]; exact l14.siz
      have f15 : FrL 12 hh h15 := by rw [e15]; exact f14.tr (FrL.up (by unfold lnK; omega))
      have inv1 := sizA_inv (f := (f : Int)) (z := (n : Int) + 1) x.2.2.1 (by omega)
      have e0 : sizA σ f ((n : Int) + 1) 0 = σ 0 := sizA_k (by decide)
      have fr15 := fr.tr f15.q
      refine agrees_c (x.fq fr15) (xh.cp f15 inv1 l15) (hn.fq fr15) ok (by rw [e0]) hT (fun y h17 hy hq f17 => ⟨by omega, fun u2 => ?_, fun u2 => ?_⟩)
      · have fr17 := fr15.tr f17.q
        refine go h17 fr17 ?_
        rw [same (fun w => by have := hq.mpr w.2; omega)]
        exact (ac.fr f15).fr f17
      · have fr17 := fr15.tr f17.q
        have hit : (n : Int) + 1 ≠ σ 8 f 0 ∧ okN π σ (sizA σ f ((n : Int) + 1)) m nt := ⟨by omega, hq.mp (by omega)⟩
        refine take_c (x.fq fr17) hT ⟨by omega, hf⟩ (by omega) hl (b := 64 * f + n) (by omega) okr ((ac.fr f15).fr f17) (fun h21 f21 a21 => go h21 (fr17.tr f21) ?_)
        have e : rowO π σ m nt f (n + 1) (allO π σ m nt f) = putO π σ f ((n : Int) + 1) (rowO π σ m nt f n (allO π σ m nt f)) := by
          show stepO π σ m nt f ((n : Int) + 1) _ = _
          unfold stepO; rw [if_pos hit]
        rw [e]; exact a21
  have outer : ∀ (d n : Nat) (hh : HP), (π 0 1).toNat - n = d → n ≤ (π 0 1).toNat → FrQC h hh → AcC hh π l (allO π σ m nt n) → wX4_tryAll_28 0 l (fun h25 => P h25) (d + 1) n hh := by
    intro d
    induction d with
    | zero =>
      intro n hh hd hn' fr ac
      have e : n = (π 0 1).toNat := by omega
      subst e
      rw [wX4_tryAll_28, (x.fq fr).2.1.1.2]
      exact ⟨by omega, by omega, fun _ => k hh fr ac, fun u => absurd (by omega) u⟩
    | succ d ih =>
      intro n hh hd hn' fr ac
      rw [wX4_tryAll_28, (x.fq fr).2.1.1.2]
      refine ⟨by omega, by omega, fun u => absurd u (by omega), fun _ => ⟨_, inner n _ (by omega) (fun h' f' a' => ?_) 64 0 hh (by omega) (by omega) fr ac⟩⟩
      have := ih (n + 1) h' (by omega) (by omega) f' a'
      rw [show ((n + 1 : Nat) : Int) = (n : Int) + 1 by omega] at this
      exact this
  exact ⟨_, outer _ 0 h4 rfl (by omega) fr4 ac4⟩
theorem mostUnlike_c {h : HP} {π : PL} {U : Int → Int} {P : Int → HP → Prop} (hp : PlanOK π) (pc : PlanC h 1 π) (hU : ∀ c, 0 ≤ c → c < π 0 0 → h 22 0 c = U c ∧ 0 ≤ U c ∧ U c ≤ 1000) (k : P (mstO U (π 0 0).toNat) h) : wX4_mostUnlike 0 h P := by
  have n12 := hp.1.2.1
  have n0 := hp.1.1
  unfold wX4_mostUnlike
  have loop : ∀ (d m : Nat), (π 0 0).toNat - m = d → m ≤ (π 0 0).toNat → wX4_mostUnlike_4 0 h (fun l22 => P l22 h) (d + 1) (mstO U m) m := by
    intro d
    induction d with
    | zero =>
      intro m hd hm
      have e : m = (π 0 0).toNat := by omega
      subst e
      have r := mstO_rng U (π 0 0).toNat
      rw [wX4_mostUnlike_4, pc.1.1]
      exact ⟨by omega, by omega, fun _ => k, fun u => absurd (by omega) u⟩
    | succ d ih =>
      intro m hd hm
      have r := mstO_rng U m
      have u1 := hU m (by omega) (by omega)
      have ih1 := ih (m + 1) (by omega) (by omega)
      rw [wX4_mostUnlike_4, pc.1.1, u1.1]
      have go : ∀ t : Int, t = mstO U (m + 1) → wX4_mostUnlike_4 0 h (fun l22 => P l22 h) (d + 1) t ((m : Int) + 1) := by
        intro t e
        rw [e]
        exact ih1
      have mm : mstO U (m + 1) = if 0 < U m ∧ (mstO U m = -1 ∨ U (mstO U m) < U m) then (m : Int) else mstO U m := rfl
      generalize mstO U m = b at *
      by_cases b1 : b = -1
      · refine ⟨by omega, by omega, fun u => absurd u (by omega), fun _ => ⟨by omega, ⟨by omega, fun _ => ⟨by omega, fun u => absurd b1 u⟩⟩, fun t11 h11 => go t11 ?_⟩⟩
        rw [mm]
        by_cases p : U m ≤ 0
        · rw [if_neg (by omega)]; exact h11.1 p
        · rw [if_pos ⟨by omega, Or.inl b1⟩]; exact (h11.2 p).1 b1
      · have ub := hU b (by omega) (by omega)
        rw [ub.1]
        refine ⟨by omega, by omega, fun u => absurd u (by omega), fun _ => ⟨by omega, ⟨by omega, fun _ => ⟨by omega, fun _ => ⟨by omega, by omega, by omega, by omega⟩⟩⟩, fun t11 h11 => go t11 ?_⟩⟩
        rw [mm]
        by_cases p : U m ≤ 0
        · rw [if_neg (by omega)]; exact h11.1 p
        · by_cases p2 : U m ≤ U b
          · rw [if_neg (by omega)]; exact ((h11.2 p).2 b1).1 p2
          · rw [if_pos ⟨by omega, Or.inr (by omega)⟩]; exact ((h11.2 p).2 b1).2 p2
  exact ⟨_, loop _ 0 rfl (by omega)⟩
theorem other_c {h : HP} {π : PL} {K m a : Int} {nt : PL} {σ : ST} {P : Int → HP → Prop} {X : Nat → HP → Prop} (x : LX h 10 π K σ) (hT : σ 0 0 0 ≤ 2000) (hs : szOK π σ) (hn : NotesC h 5 m nt) (ok : noteOK π m nt) (ha : inR a)
    (k : ∀ h' v, FrQC h h' → otherV π σ m nt a = (0, v) → P v h') (kx : ∀ h', FrQC h h' → otherV π σ m nt a = (1, 0) → X 0 h') : wX11_other 0 a h P X := by
  have n8 := x.1.2.1
  unfold wX11_other
  refine ⟨ha, fun z => kx h (FrQC.rf h) (by unfold otherV; rw [if_neg (by omega)]), fun z => ⟨ha, fun z2 => ⟨ha, fun z3 => ?_, fun z3 => ?_⟩, fun z2 => kx h (FrQC.rf h) (by unfold otherV; rw [if_neg (by omega)])⟩⟩
  · refine tryAll_c x hT hs hn ok (Or.inl rfl) (fun h7 f7 a7 => ⟨ha, fun t9 h9 => k h7 t9 f7 ?_⟩)
    unfold otherV
    rw [if_pos (by omega), if_neg z3]
    by_cases y : a = 0
    · rw [if_pos y, h9.2 y, a7.1]
    · rw [if_neg y, h9.1 y, a7.2.1]
  · unfold wX4_holdsWithout
    refine copyL_c (by decide) x.1 x.2.1 x.2.2.2 (fun h1 f1 l1 => ?_)
    have fq : FrQC h h1 := f1.q
    refine agrees_c (x.fq fq) (x.cp f1 x.2.2.1 l1) (hn.fq fq) ok rfl hT (fun y h2 hy hq f2 => ⟨hy, ⟨by omega, fun t16 h16 => k h2 t16 (fq.tr f2.q) ?_⟩⟩)
    unfold otherV
    rw [if_pos (by omega), if_pos z3]
    by_cases w : okN π σ σ m nt
    · rw [if_pos w, h16.2 (by have := hq.mpr w; omega)]
    · rw [if_neg w, h16.1 (by rcases hy with u | u; exact u; exact absurd (hq.mp u) w)]
theorem look_c {h : HP} {π : PL} {K m a : Int} {nt : PL} {σ : ST} {P : Int → HP → Prop} {X : Nat → HP → Prop} (x : LX h 10 π K σ) (hT : σ 0 0 0 ≤ 2000) (hs : szOK π σ) (hn : NotesC h 5 m nt) (ok : noteOK π m nt) (ha : inR a)
    (k : ∀ h' v, FrQC h h' → lookV π σ m nt a = (0, v) → P v h') (kx : ∀ h', FrQC h h' → lookV π σ m nt a = (1, 0) → X 0 h') : wX11_look 0 a h P X := by
  have n8 := x.1.2.1
  have n12 := x.1.1.2.1
  unfold wX11_look
  refine ⟨ha, fun z => kx h (FrQC.rf h) (by unfold lookV; rw [if_neg (by omega)]), fun z => ⟨ha, fun z2 => ?_, fun z2 => kx h (FrQC.rf h) (by unfold lookV; rw [if_neg (by omega)])⟩⟩
  refine tryAll_c x hT hs hn ok (Or.inr rfl) (fun h5 f5 a5 => ?_)
  have x5 := x.fq f5
  have oka := ACok.all (π := π) (σ := σ) (m := m) (nt := nt) (π 0 1).toNat (by omega)
  have hU : ∀ c, 0 ≤ c → c < π 0 0 → h5 22 0 c = (allO π σ m nt (π 0 1).toNat).2.2.1 c ∧ 0 ≤ (allO π σ m nt (π 0 1).toNat).2.2.1 c ∧ (allO π σ m nt (π 0 1).toNat).2.2.1 c ≤ 1000 := fun c c0 c1 => ⟨(a5.2.2 rfl c c0 c1).1, by have := oka.2.2.2 c; have := oka.1; omega⟩
  have kv : ∀ v, (if a = 0 then mstO (allO π σ m nt (π 0 1).toNat).2.2.1 (π 0 0).toNat else if mstO (allO π σ m nt (π 0 1).toNat).2.2.1 (π 0 0).toNat = -1 then 0 else (allO π σ m nt (π 0 1).toNat).2.2.1 (mstO (allO π σ m nt (π 0 1).toNat).2.2.1 (π 0 0).toNat)) = v → P v h5 := fun v e => k h5 v f5 (by unfold lookV; rw [if_pos (by omega), e])
  have r := mstO_rng (allO π σ m nt (π 0 1).toNat).2.2.1 (π 0 0).toNat
  refine ⟨ha, fun y => mostUnlike_c x.1 x5.2.1 hU ?_, fun y => mostUnlike_c x.1 x5.2.1 hU (kv _ (by rw [if_pos y]))⟩
  simp only [if_neg y] at kv
  generalize mstO (allO π σ m nt (π 0 1).toNat).2.2.1 (π 0 0).toNat = b at *
  unfold wX4_unlikeOf
  refine ⟨⟨by omega, fun u => by omega⟩, fun t3 h3 => kv t3 ?_⟩
  by_cases u : b = -1
  · rw [if_pos u, h3.2 u]
  · rw [if_neg u, h3.1 u, (hU b (by omega) (by omega)).1]
