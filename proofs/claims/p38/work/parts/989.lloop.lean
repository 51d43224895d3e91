/-! the law's turns, formula by formula -/
theorem pos_rng (v : Int) : 0 ≤ bAnd v 2147483647 ∧ bAnd v 2147483647 < 2147483648 := by
  unfold bAnd
  have e : ((Int32.ofInt v &&& Int32.ofInt 2147483647).toBitVec).toNat ≤ 2147483647 := by
    rw [Int32.toBitVec_and, BitVec.toNat_and]
    exact Nat.le_trans Nat.and_le_right (by decide)
  have t : (Int32.ofInt v &&& Int32.ofInt 2147483647).toInt = (((Int32.ofInt v &&& Int32.ofInt 2147483647).toBitVec).toNat : Int) := by
    show ((Int32.ofInt v &&& Int32.ofInt 2147483647).toBitVec).toInt = _
    rw [BitVec.toInt_eq_toNat_of_lt (by omega)]
  rw [t]
  omega
theorem most_s {G : GG} {a b : Int} {h : HP} {P : Int → HP → Prop} (hb : 0 < b ∧ b ≤ 1000) (kk : ∀ r, 0 ≤ r → r < b → P r h) : wL_most G a b h P :=
  ⟨pos_rng a, by omega, kk _ (Int.emod_nonneg _ (by omega)) (Int.emod_lt_of_pos _ hb.1)⟩
theorem cell_s {G : GG} {a : Int} {h : HP} {P : Int → HP → Prop} (hl : G.2.2.1 11 ≤ 1000) (ha : 0 ≤ a ∧ a ≤ 100) (kk : ∀ r, inR r → P r h) : wL_cell G a h P := by
  refine ⟨⟨by omega, by omega, fun z => ⟨by omega, by omega⟩⟩, fun t ht => kk t ?_⟩
  by_cases c : ((G.2.2.1 11 : Nat) : Int) ≤ a
  · rw [ht.1 c]; unfold inR; omega
  · rw [ht.2 c]
    have b1 := Int32.le_toInt (G.2.2.2 a.toNat)
    have b2 := Int32.toInt_lt (G.2.2.2 a.toNat)
    unfold inR
    omega
theorem FrCm.fb {h g : HP} (_ : FrCm (ob 1 h) g) : FrB 1 h (pt 1 h g) := FrB.pt
theorem come_o {K c z : Int} {π : PL} {s : SD} {im : IM} {t : TX} {h : HP} {P : Int → HP → Prop} (a : St 1 K π s im t h) (hc : 0 ≤ c ∧ c < π 0 0) (hz : 1 ≤ z ∧ z ≤ 64)
    (k1 : kids π c = 0 → ∀ h', FrB 1 h h' → St 1 (K + 1) π (setS (keepS s) (acceptA π s.1 c z)) im t h' → P (acceptA π s.1 c z 6 c 0) h') (k0 : kids π c ≠ 0 → ∀ h' t', FrB 1 h h' → St 1 K π s im t' h' → P (-1) h') : wX11_come 0 c z (ob 1 h) (fun x g => ∀ h1 : HP, h1 = pt 1 h g → P x h1) := by
  have n12 := a.n12
  refine come_c a.1 a.2 (by unfold inR; omega) (by unfold inR; omega) (fun g f cp ci h1 e1 => ?_) (fun g f cp ci h1 e1 => ?_)
  · subst e1
    refine k1 cp.1.2 _ FrB.pt ⟨a.1.act ⟨acceptA_inv a.1.1.1 a.1.2.1.1.1 hc.1 hc.2 cp.1.2 hz, ?_⟩, CI_pt ci⟩
    rw [acceptA_0 (Or.inl rfl)]
    exact a.1.2.1.1.2
  · subst e1
    exact k0 (fun w => cp ⟨⟨hc, w⟩, hz⟩) _ (refT t 1) FrB.pt ⟨a.1, CI_pt ci⟩
theorem units_o {K u : Int} {π : PL} {s : SD} {im : IM} {t : TX} {h : HP} {P : Int → HP → Prop} (a : St 1 K π s im t h) (hu : 1 ≤ u ∧ u ≤ 100) (hT : s.1 0 0 0 + u ≤ 2000)
    (kk : ∀ h', FrB 1 h h' → St 1 K π (setS (keepS s) (goA π u.toNat s.1)) im t h' → P (s.1 0 0 0 + u) h') : wX11_units 0 u (ob 1 h) (fun x g => ∀ h1 : HP, h1 = pt 1 h g → P x h1) := by
  have gi := goA_inv a.1.1 u.toNat a.1.2.1.1.1 (by omega)
  have et : goA π u.toNat s.1 0 0 0 = s.1 0 0 0 + u := by rw [gi.2.1]; omega
  refine units_c a.1 a.2 (by unfold inR; omega) (fun g f up ci h1 e1 => ?_) (fun g f up _ => absurd ⟨hu, hT⟩ up)
  subst e1
  rw [et]
  refine kk _ FrB.pt ⟨⟨a.1.1, a.1.2.1.keep.set ⟨gi.1, ?_⟩, a.1.2.2⟩, CI_pt ci⟩
  rw [et]; exact hT
noncomputable def mark (π : PL) (σ : ST) : Int := (((σ 0 0 0 * 7) + (hel π σ 12 * 1000003)) + (sentA π σ * 31)) + σ 4 12 0
def Bs (σ : ST) : Prop := σ 0 0 0 = 0 ∧ σ 0 2 0 = 0 ∧ σ 4 12 0 = 0
theorem DatH.fr2 {G : GG} {h h' : HP} {N : Nat} {pr : Nat → Int} {hs : Nat → Nat → Bool} {cu : Nat → Nat → Int × Int × Int} (q : DatH G h N pr hs cu) (e : ∀ k, k = 204 ∨ 220 ≤ k → h' k = h k) : DatH G h' N pr hs cu := by
  obtain ⟨q1, q2, q3⟩ := q
  refine ⟨q1, fun c hc => by rw [e 204 (Or.inl rfl)]; exact q2 c hc, fun c k hc hk => ?_⟩
  rw [e (220 + 3 * c + k) (by omega)]
  exact q3 c k hc hk
theorem Go.cs {π : PL} {σ τ : ST} {N : Nat} {hs : Nat → Nat → Bool} {cu : Nat → Nat → Int × Int × Int} (g : Go π σ τ) (c : CuS σ N hs cu) : CuS τ N hs cu := fun a k ha hk => by
  rw [g.2.2 9 (by decide) (by decide), g.2.2 10 (by decide) (by decide), g.2.2 11 (by decide) (by decide)]
  exact c a k ha hk
section LOP
variable {G : GG} {π : PL} {im : IM} {N : Nat} {pr : Nat → Int} {hs : Nat → Nat → Bool} {cu : Nat → Nat → Int × Int × Int}
/-- the plan, without the arrays -/
def PL0 (π : PL) (N : Nat) (pr : Nat → Int) (hs : Nat → Nat → Bool) (cu : Nat → Nat → Int × Int × Int) : Prop := DatOK N pr hs cu ∧ (π 0 0 = (N : Int) ∧ π 0 1 = 0) ∧ ∀ c : Nat, c < N → π 1 (c : Int) = pr c
theorem PL0.pn {h : HP} (p : PL0 π N pr hs cu) (d : DatH G h N pr hs cu) : PN G h π N pr hs cu := ⟨p.1, d, p.2.1, p.2.2⟩
/-- what lies behind an act, ahead of its tests -/
def LT (G : GG) (π : PL) (im : IM) (N : Nat) (pr : Nat → Int) (hs : Nat → Nat → Bool) (cu : Nat → Nat → Int × Int × Int) (K : Int) (s : SD) (t : TX) (came m : Int) (h : HP) : Prop :=
  St 1 K π s im t h ∧ RI π s.1 ∧ CuS s.1 N hs cu ∧ DatH G h N pr hs cu ∧ T7 π s.1 = came ∧ s.2.1 = m ∧ (∀ i, 0 ≤ i → i < m → h 208 0 i = mark π (s.2.2.1 i))
/-- what lies ahead of a turn -/
def LJ (G : GG) (π : PL) (im : IM) (N : Nat) (pr : Nat → Int) (hs : Nat → Nat → Bool) (cu : Nat → Nat → Int × Int × Int) (came m n : Int) (h : HP) : Prop :=
  ∃ K s t, (0 ≤ K ∧ K ≤ n) ∧ LT G π im N pr hs cu K s t came m h ∧ ((0 ≤ came ∧ came ≤ n) ∧ 0 ≤ m ∧ m ≤ n) ∧ s.1 0 0 0 ≤ 60 * n ∧ (m = 0 → Bs s.1) ∧ (0 < m → Bs (s.2.2.1 0)) ∧ ∀ c : Nat, c < N → 0 ≤ h 207 0 (c : Int) ∧ h 207 0 (c : Int) ≤ s.1 3 (c : Int) 0
theorem LT.kp {K came m : Int} {s : SD} {t : TX} {h h' : HP} (l : LT G π im N pr hs cu K s t came m h) (e1 : ∀ k, k < 100 → h' k = h k) (e2 : ∀ k, k = 204 ∨ 220 ≤ k → h' k = h k) (e3 : ∀ i, 0 ≤ i → i < m → h' 208 0 i = h 208 0 i) : LT G π im N pr hs cu K s t came m h' := by
  obtain ⟨l1, l2, l3, l4, l5, l6, l7⟩ := l
  exact ⟨l1.k1 e1, l2, l3, l4.fr2 e2, l5, l6, fun i i0 i1 => by rw [e3 i i0 i1]; exact l7 i i0 i1⟩
theorem kd_7 : kd 7 = 207 := rfl
theorem kd_8 : kd 8 = 208 := rfl
theorem LT.q {K came m : Int} {s : SD} {t : TX} {h h' : HP} (l : LT G π im N pr hs cu K s t came m h) (q : Q1 h K π s im t h') : LT G π im N pr hs cu K s t came m h' := by
  obtain ⟨l1, l2, l3, l4, l5, l6, l7⟩ := l
  exact ⟨q.1, l2, l3, l4.fr q.2, l5, l6, fun i i0 i1 => by rw [q.2 208 (by decide)]; exact l7 i i0 i1⟩
theorem LT.q1 {K came m : Int} {s : SD} {t : TX} {h : HP} (l : LT G π im N pr hs cu K s t came m h) : Q1 h K π s im t h := ⟨l.1, H204.rf h⟩
theorem l338_s {K came m l5 l7 l9 : Int} {s : SD} {t : TX} {K380 K360 : HP → Prop} (p : PL0 π N pr hs cu) : ∀ (d c : Nat) {h : HP}, c + d = N → LT G π im N pr hs cu K s t came m h → (∀ j : Nat, j < N → 0 ≤ h 207 0 (j : Int) ∧ h 207 0 (j : Int) ≤ s.1 3 (j : Int) 0) → (∀ h', LT G π im N pr hs cu K s t came m h' → (∀ j : Nat, j < N → 0 ≤ h' 207 0 (j : Int) ∧ h' 207 0 (j : Int) ≤ s.1 3 (j : Int) 0) → K380 h') → wL_law_338 G l5 l7 l9 K380 K360 (d + 1) (c : Int) h := by
  have n6 := p.1.1
  have en := p.2.1.1
  intro d
  induction d with
  | zero =>
    intro c h hcd l v kk
    have e : c = N := by omega
    subst e
    rw [wL_law_338, (p.pn l.2.2.2.1).npi]
    exact ⟨by omega, by omega, fun _ => kk h l v, fun z => absurd (Int.le_refl _) z⟩
  | succ d ih =>
    intro c h hcd l v kk
    have hc : c < N := by omega
    have hc' : 0 ≤ (c : Int) ∧ (c : Int) < π 0 0 := ⟨by omega, by omega⟩
    obtain ⟨inv, hT⟩ := l.q1.inv
    have b := cls_b inv hT hc'
    have vc := v c hc
    rw [wL_law_338, (p.pn l.2.2.2.1).npi]
    refine ⟨by omega, by omega, fun z => absurd z (by omega), fun _ => ?_⟩
    refine q_of l.q1 hc' (inr_s (by omega)) (ofV_5 hc') (fun h1 q1 => ?_)
    have e7 : h1 (kd 7) 0 (c : Int) = h 207 0 (c : Int) := by rw [kd_7, q1.2 207 (by decide)]
    rw [e7]
    refine ⟨⟨by omega, by omega⟩, by omega, by omega, fun _ => ?_, fun z => absurd vc.2 z⟩
    refine q_of q1 hc' (inr_s (by omega)) (ofV_5 hc') (fun h2 q2 => ⟨⟨by omega, by omega⟩, fun h3 e3 => ?_⟩)
    have l2 := l.q q2
    rw [kd_7] at e3
    have l3 : LT G π im N pr hs cu K s t came m h3 := l2.kp (fun k hk => by rw [e3, up_k (by omega)]) (fun k hk => by rw [e3, up_k (by omega)]) (fun i _ _ => by rw [e3, up_k (by decide)])
    have := ih (c + 1) (h := h3) (by omega) l3 (fun j hj => by
      rw [e3, up_ji]
      by_cases w : (j : Int) = (c : Int)
      · rw [if_pos w, w]; omega
      · rw [if_neg w, q2.2 207 (by decide)]; exact v j hj) kk
    rw [show ((c + 1 : Nat) : Int) = (c : Int) + 1 by omega] at this
    exact this
theorem l322_s {K came m n : Int} {s : SD} {t : TX} {K81 : Int → Int → Int → HP → Prop} {K360 K422 : HP → Prop} {h : HP} (p : PL0 π N pr hs cu) (hm : 0 ≤ m ∧ m ≤ n) (hn : n < 16) (hk : 0 ≤ came ∧ came ≤ 16) (l : LT G π im N pr hs cu K s t came (m + 1) (up h 208 0 m (h 208 0 n))) (v : ∀ j : Nat, j < N → 0 ≤ h 207 0 (j : Int) ∧ h 207 0 (j : Int) ≤ s.1 3 (j : Int) 0) (kk : ∀ h', LT G π im N pr hs cu K s t came (m + 1) h' → (∀ j : Nat, j < N → 0 ≤ h' 207 0 (j : Int) ∧ h' 207 0 (j : Int) ≤ s.1 3 (j : Int) 0) → K81 came (m + 1) (n + 1) h') : wL_law_322 G came m n K81 K360 K422 h := by
  have n6 := p.1.1
  have en := p.2.1.1
  unfold wL_law_322
  refine ⟨⟨by omega, by omega⟩, ⟨by omega, by omega⟩, fun h1 e1 => ⟨N + 1, ?_⟩⟩
  rw [kd_8] at e1
  rw [← e1] at l
  refine l338_s p N 0 (by omega) l (fun j hj => by rw [e1, up_k (by decide)]; exact v j hj) (fun h2 l2 v2 => ?_)
  have t7 : T7 π s.1 = came := l2.2.2.2.2.1
  refine right_s (p.pn l2.2.2.2.1) l2.2.1 (by omega) l2.q1 (fun h3 q3 => ?_)
  refine ⟨by decide, fun z => absurd z (by decide), fun _ => ?_⟩
  have l3 := l2.q q3
  refine chosen_s (p.pn l3.2.2.2.1) l3.2.2.1 l3.q1 (fun h4 q4 => ?_)
  refine ⟨by decide, fun z => absurd z (by decide), fun _ => ?_⟩
  have l4 := l3.q q4
  refine q_count l4.q1 (inr_s (by omega)) (v := hel π s.1 12) rfl (fun h5 q5 => ?_)
  refine q_count q5 (inr_s (by omega)) (v := s.1 0 2 0) rfl (fun h6 q6 => ?_)
  refine q_count q6 (inr_s (by omega)) (v := lostA π s.1) rfl (fun h7 q7 => ?_)
  have e7 : hel π s.1 12 + s.1 0 2 0 + lostA π s.1 = came := t7
  rw [e7]
  refine ⟨by omega, by omega, fun _ => ?_, fun z => absurd rfl z⟩
  unfold wL_law_424
  have l7 := l4.q q7
  refine kk h7 l7 (fun j hj => ?_)
  rw [q7.2 207 (by decide), q4.2 207 (by decide), q3.2 207 (by decide)]
  exact v2 j hj
theorem keep_1 {s : SD} {σ : ST} {m : Int} (e : s.2.1 = m) (hm : 0 ≤ m ∧ m ≤ 16) : (setS (keepS s) σ).2.1 = m + 1 ∧ (setS (keepS s) σ).2.2.1 m = s.1 ∧ ∀ i, i ≠ m → (setS (keepS s) σ).2.2.1 i = s.2.2.1 i := by
  subst e
  refine ⟨?_, ?_, fun i hi => ?_⟩
  · show keepN s.2.1 = _
    unfold keepN
    rw [if_pos (by omega)]
  · show keepH s.2.1 s.2.2.1 s.1 s.2.1 = _
    unfold keepH
    rw [if_pos (by omega), if_pos rfl]
  · show keepH s.2.1 s.2.2.1 s.1 i = _
    unfold keepH
    rw [if_pos (by omega), if_neg hi]
theorem l81_s {K430 : Int → HP → Prop} {K214 K277 K320 K360 K422 : HP → Prop} (p : PL0 π N pr hs cu) (hlen : G.2.2.1 11 ≤ 1000) : ∀ (d : Nat) (n came m : Int) {h : HP}, n + (d : Int) = 16 → 0 ≤ n → LJ G π im N pr hs cu came m n h → (∀ h' came' m', LJ G π im N pr hs cu came' m' 16 h' → K430 m' h') → wL_law_81 G K430 K214 K277 K320 K360 K422 (d + 1) came m n h := by
  have n6 := p.1.1
  have en := p.2.1.1
  intro d
  induction d with
  | zero =>
    intro n came m h hnd n0 l kk
    have e : n = 16 := by omega
    subst e
    rw [wL_law_81]
    exact ⟨by omega, fun _ => kk h came m l, fun z => absurd (Int.le_refl _) z⟩
  | succ d ih =>
    intro n came m h hnd n0 lj kk
    obtain ⟨K, s, t, hK, l, hcm, ht60, hb0, hb1, hv⟩ := lj
    have hn : n < 16 := by omega
    obtain ⟨inv, hT⟩ := l.q1.inv
    have ht := l.q1.pok.1
    have ei : npI G = (N : Int) := (p.pn l.2.2.2.1).npi
    have t0 := inv.1
    have next : ∀ {K' : Int} {s' : SD} {t' : TX} {came' m' : Int} {h' : HP}, (0 ≤ K' ∧ K' ≤ n + 1) → LT G π im N pr hs cu K' s' t' came' m' h' → ((0 ≤ came' ∧ came' ≤ n + 1) ∧ 0 ≤ m' ∧ m' ≤ n + 1) → s'.1 0 0 0 ≤ 60 * (n + 1) → (m' = 0 → Bs s'.1) → (0 < m' → Bs (s'.2.2.1 0)) → (∀ c : Nat, c < N → 0 ≤ h' 207 0 (c : Int) ∧ h' 207 0 (c : Int) ≤ s'.1 3 (c : Int) 0) → wL_law_81 G K430 K214 K277 K320 K360 K422 (d + 1) came' m' (n + 1) h' := fun a b c e f g i => ih (n + 1) _ _ (by omega) (by omega) ⟨_, _, _, a, b, c, e, f, g, i⟩ kk
    rw [wL_law_81]
    refine ⟨by omega, fun z => absurd z (by omega), fun _ => ?_⟩
    refine cell_s hlen (by omega) (fun x4 hx4 => ?_)
    rw [ei]
    refine most_s (by omega) (fun x6 x60 x61 => ?_)
    refine q_count l.q1 (inr_s (by omega)) (v := s.1 0 0 0) rfl (fun h1 q1 => ?_)
    refine q_count q1 (inr_s (by omega)) (v := hel π s.1 12) rfl (fun h2 q2 => ?_)
    refine q_count q2 (inr_s (by omega)) (v := sentA π s.1) rfl (fun h3 q3 => ?_)
    refine q_count q3 (inr_s (by omega)) (v := s.1 4 12 0) rfl (fun h4 q4 => ⟨⟨by omega, by omega⟩, fun h5 e5 => ?_⟩)
    rw [kd_8] at e5
    have em : h5 208 0 n = mark π s.1 := by rw [e5, up_eq]; rfl
    have l4 := l.q q4
    have l5 : LT G π im N pr hs cu K s t came m h5 := l4.kp (fun k hk => by rw [e5, up_k (by omega)]) (fun k hk => by rw [e5, up_k (by omega)]) (fun i i0 i1 => by rw [e5, up_j (by omega)])
    have v5 : ∀ c : Nat, c < N → 0 ≤ h5 207 0 (c : Int) ∧ h5 207 0 (c : Int) ≤ s.1 3 (c : Int) 0 := fun c hc => by rw [e5, up_k (by decide), q4.2 207 (by decide)]; exact hv c hc
    -- behind an act
    have acted : ∀ {K' came' : Int} {σ : ST} {t' : TX} {h' : HP}, (0 ≤ K' ∧ K' ≤ n + 1) → (0 ≤ came' ∧ came' ≤ n + 1) → σ 0 0 0 ≤ 60 * (n + 1) → St 1 K' π (setS (keepS s) σ) im t' h' → Go π s.1 σ → T7 π σ = came' → H204 h5 h' → wL_law_322 G came' m n (fun y5 y7 y9 hy => wL_law_81 G K430 K214 K277 K320 K360 K422 (d + 1) y5 y7 y9 hy) (fun hy => K360 hy) (fun hy => K422 hy) h' := by
      intro K' came' σ t' h' hK' hc' hσ st go t7 f
      obtain ⟨k1, k2, k3⟩ := keep_1 (s := s) (σ := σ) l.2.2.2.2.2.1 (by omega)
      refine l322_s (im := im) (s := setS (keepS s) σ) (t := t') (K := K') p (by omega) hn (by omega) ⟨?_, go.1, go.cs l.2.2.1, ?_, t7, k1, fun i i0 i1 => ?_⟩ (fun j hj => ?_) (fun h6 l6 v6 => ?_)
      · exact st.k1 (fun k hk => up_k (by omega))
      · exact (l5.2.2.2.1.fr f).fr2 (fun k hk => up_k (by omega))
      · by_cases w : i = m
        · subst w
          rw [up_eq, f 208 (by decide), em, k2]
        · rw [up_j w, f 208 (by decide), k3 i w]
          exact l5.2.2.2.2.2.2 i i0 (by omega)
      · rw [f 207 (by decide)]
        have := v5 j hj
        have g := go.2.1 (j : Int) (by omega) (by omega)
        exact ⟨this.1, Int.le_trans this.2 g⟩
      · refine next hK' l6 (by omega) hσ (fun z => absurd z (by omega)) (fun _ => ?_) v6
        by_cases w : m = 0
        · have k2' := k2
          rw [w] at k2'
          rw [k2']
          exact hb0 w
        · rw [k3 0 (fun z => w z.symm)]
          exact hb1 (by omega)
    refine most_s (by omega) (fun x22 x220 x221 => ⟨by omega, fun c3 => ?_, fun c3 => ?_⟩)
    · refine q_count l5.q1 (inr_s (by omega)) (v := s.1 0 0 0) rfl (fun h6 q6 => ?_)
      refine most_s (by omega) (fun x29 x290 x291 => ?_)
      refine units_o q6.1 (by omega) (by omega) (fun h7 f7 a7 => ⟨by omega, by omega, fun _ => ?_, fun z => absurd rfl z⟩)
      have gg := goA_go q6.pok p.2.1.2 (1 + x29).toNat inv l.2.1 (by omega)
      have gt := (goA_inv q6.pok (1 + x29).toNat inv (by omega)).2.1
      exact acted (K' := K) (by omega) (by omega) (by omega) a7 gg.1 (by rw [gg.2]; exact l.2.2.2.2.1) (q6.2.tr f7.h)
    · have hc' : 0 ≤ x6 ∧ x6 < π 0 0 := ⟨x60, by omega⟩
      have b := cls_b inv hT hc'
      refine q_of l5.q1 hc' (inr_s (by omega)) (ofV_8 hc') (fun h6 q6 => ?_)
      refine q_of q6 hc' (inr_s (by omega)) (ofV_7 hc') (fun h7 q7 => ?_)
      refine most_s (by omega) (fun x84 x840 x841 => ?_)
      obtain ⟨c, ec⟩ : ∃ c : Nat, x6 = (c : Int) := ⟨x6.toNat, by omega⟩
      subst ec
      have hc : c < N := by omega
      have l7 := l5.q q7
      refine come_o q7.1 hc' (by omega) (fun k0 h8 f8 a8 => ?_) (fun k0 h8 t8 f8 a8 => ?_)
      · obtain ⟨g1, g2, g3, g4⟩ := accept_go (z := 1 + x84) ht inv l.2.1 hc'.1 hc'.2 k0 (by omega)
        rw [g3]
        have pn8 : PN G h7 π N pr hs cu := p.pn l7.2.2.2.1
        refine leaf_s pn8 f8.h hc (fun _ => ?_) (fun w => absurd k0 w)
        refine ⟨by decide, fun _ => ⟨by omega, fun t93 ht93 => ?_⟩, fun z => absurd z (by decide)⟩
        have e93 : (if 20 ≤ s.1 6 (c : Int) 0 then 20 else s.1 6 (c : Int) 0 + 1) = t93 := by
          by_cases w : 20 ≤ s.1 6 (c : Int) 0
          · rw [if_pos w, ht93.1 w]
          · rw [if_neg w, ht93.2 w]
        have b93 : 1 ≤ t93 ∧ t93 ≤ 21 := by rw [← e93]; split <;> omega
        rw [e93]
        refine ⟨by omega, by omega, fun z => absurd rfl z, fun _ => ?_⟩
        have c5 := (inv.2.2.2.2.2.2.1 (c : Int) hc'.1 hc'.2).2.2.1
        have v7 : ofV π (setS (keepS s) (acceptA π s.1 (c : Int) (1 + x84))).1 (c : Int) 7 = (0, if 20 ≤ s.1 6 (c : Int) 0 then s.1 5 (c : Int) 0 + 1 else s.1 5 (c : Int) 0) := by
          rw [ofV_7 hc']
          show (0, acceptA π s.1 (c : Int) (1 + x84) 5 (c : Int) 0) = _
          rw [g4]
        refine q_of (h0 := h8) ⟨a8, H204.rf h8⟩ hc' (inr_s (by omega)) v7 (fun h9 q9 => ⟨by omega, fun t102 ht102 => ?_⟩)
        have e102 : (if 20 ≤ s.1 6 (c : Int) 0 then s.1 5 (c : Int) 0 + 1 else s.1 5 (c : Int) 0) = t102 := by
          by_cases w : 20 ≤ s.1 6 (c : Int) 0
          · rw [if_pos w, ht102.1 w]
          · rw [if_neg w, ht102.2 w]
        have b102 : 0 ≤ t102 ∧ t102 ≤ 20000 := by rw [← e102]; split <;> omega
        rw [e102]
        refine ⟨by omega, by omega, fun _ => ?_, fun z => absurd rfl z⟩
        exact acted (K' := K + 1) (by omega) (by omega) (by rw [acceptA_0 (Or.inl rfl)]; omega) q9.1 g1 (by rw [g2, l.2.2.2.2.1]) (((q7.2.tr f8.h)).tr q9.2)
      · have pn8 : PN G h7 π N pr hs cu := p.pn l7.2.2.2.1
        refine leaf_s pn8 f8.h hc (fun w => absurd w k0) (fun _ => ?_)
        refine ⟨by decide, fun z => absurd rfl z, fun _ => ⟨by decide, fun _ => ⟨⟨by omega, by omega⟩, ⟨by omega, by omega⟩, fun h9 e9 => ?_⟩, fun z => absurd rfl z⟩⟩
        rw [kd_8] at e9
        unfold wL_law_424
        have f58 : H204 h5 h8 := q7.2.tr f8.h
        refine next (K' := K) (s' := s) (t' := t8) (by omega) ⟨?_, l.2.1, l.2.2.1, ?_, l.2.2.2.2.1, l.2.2.2.2.2.1, fun i i0 i1 => ?_⟩ (by omega) (by omega) hb0 hb1 (fun j hj => ?_)
        · exact a8.k1 (fun k hk => by rw [e9, up_k (by omega)])
        · exact (l5.2.2.2.1.fr f58).fr2 (fun k hk => by rw [e9, up_k (by omega)])
        · rw [e9, up_j (by omega), f58 208 (by decide)]
          exact l5.2.2.2.2.2.2 i i0 i1
        · rw [e9, up_k (by decide), f58 207 (by decide)]
          exact v5 j hj
end LOP
