/-! years: the reference -/
def YrR (h0 h : HP) (π : PL) (K : Int) (σ : ST) (s : Int) : Prop := RX h π K σ ∧ IdleR h ∧ h 12 7 47 = s ∧ FrS h0 h ∧ h 12 7 1 = h0 12 7 1
theorem YrR.draw {h0 h h' : HP} {π : PL} {K : Int} {σ : ST} {s s' : Int} (q : YrR h0 h π K σ s) (f : ∀ k, k ≠ 12 → h' k = h k) (g : ∀ j, j ≠ 47 → h' 12 7 j = h 12 7 j) (e : h' 12 7 47 = s') : YrR h0 h' π K σ s' := by
  obtain ⟨q1, q2, q3, q4, q5⟩ := q
  refine ⟨⟨q1.1, q1.2.1.congr (fun k k1 k2 => f k (by omega)), q1.2.2.1, by rw [f 56 (by decide)]; exact q1.2.2.2⟩, ?_, e, ⟨fun k k1 k2 k3 k4 k5 k6 k7 k8 k9 k10 => by rw [f k k1]; exact q4.1 k k1 k2 k3 k4 k5 k6 k7 k8 k9 k10, fun j z => by
    have z' : ¬ (j = 1 ∨ (22 < j ∧ j < 34) ∨ (42 < j ∧ j < 50)) := z
    rw [g j (by omega)]; exact q4.2.1 j z, fun j j0 j1 => by rw [f 63 (by decide)]; exact q4.2.2 j j0 j1⟩, by rw [g 1 (by decide)]; exact q5⟩
  unfold IdleR at *
  rw [g 29 (by decide), g 32 (by decide), g 31 (by decide), g 33 (by decide)]; exact q2
theorem YrR.act {h0 h h' : HP} {π : PL} {K K' : Int} {σ τ : ST} {s : Int} (q : YrR h0 h π K σ s) (f : FrU h h') (x : RX h' π K' τ) (i : IdleR h') : YrR h0 h' π K' τ s :=
  ⟨x, i, by rw [f.2 47 (by omega) (by decide) (by decide)]; exact q.2.2.1, q.2.2.2.1.u f, by rw [f.2 1 (by omega) (by decide) (by decide)]; exact q.2.2.2.2⟩
theorem happen_r {h0 h : HP} {π : PL} {K s : Int} {σ : ST} {P : HP → Prop} (q : YrR h0 h π K σ s) (hT : σ 0 0 0 + 10 ≤ 2700) (k : ∀ h', YrR h0 h' π (K + 1) (yrA π (σ, s)).1 (yrA π (σ, s)).2 → P h') : wX12_happen 7 h P := by
  have hp := q.1.1
  have n0 := hp.1.1
  have n12 := hp.1.2.1
  have n8 := hp.2.1
  unfold wX12_happen
  refine draw_r (by omega) q.2.2.1 (fun h1 f1 g1 e1 => ?_)
  have q1 := q.draw f1 g1 e1
  have r1 := mod_rng (s := nxA s) (show (0 : Int) < 6 by omega)
  have ei := evA_inv (kd := btA (nxA s) % 6) (s := nxA s) hp q.1.2.2.1
  -- the units behind it
  have fin : ∀ hh, YrR h0 hh π (K + 1) (evA π (btA (nxA s) % 6) σ (nxA s)).1 (evA π (btA (nxA s) % 6) σ (nxA s)).2 → wX12_goOn 7 10 hh (fun h7 => P h7) := by
    intro hh qh
    have ev : (evA π (btA (nxA s) % 6) σ (nxA s)).1 0 0 0 = σ 0 0 0 := ei.2
    refine goOn0_r qh.1 qh.2.1 ⟨by omega, by omega⟩ (fun h' f' i' x' => k h' (qh.act f' x' i'))
  generalize btA (nxA s) % 6 = kd at *
  unfold evA at ei fin
  rw [q1.1.2.1.1.1]
  have rest : ¬ (kd < 3 ∧ 0 < π 0 0) → wX12_happen_97 7 kd P h1 := by
    intro c1
    unfold wX12_happen_97
    rw [q1.1.2.1.1.2]
    rw [if_neg c1] at ei
    simp only [if_neg c1] at fin
    have stay : ¬ (kd = 3 ∧ 0 < π 0 1) → wX12_goOn 7 10 h1 (fun h7 => P h7) := fun n => fin h1 (by
      rw [if_neg n]
      exact ⟨⟨hp, q1.1.2.1, q1.1.2.2.1.mono (by omega), q1.1.2.2.2⟩, q1.2⟩)
    refine ⟨by omega, fun z => stay (fun u => z u.1), fun z => ⟨by omega, fun z2 => stay (fun u => by omega), fun z2 => draw_r (by omega) q1.2.2.1 (fun h11 f11 g11 e11 h13 e13 => ?_)⟩⟩
    have q11 := q1.draw f11 g11 e11
    have c2 : kd = 3 ∧ 0 < π 0 1 := ⟨z, by omega⟩
    rw [if_pos c2] at ei
    simp only [if_pos c2] at fin
    have e90 : h1 56 7 3090 = σ 0 5 0 := q1.1.2.2.2.1.2.2.2.2.2.2
    have k13 : ∀ k, k ≠ 56 → h13 k = h11 k := fun k hk => by rw [e13, up_k hk]
    have row : RowR (h13 56 7) π (togA σ (btA (nxA (nxA s)) % π 0 1)) := by
      unfold togA
      exact (q11.1.2.2.2).num hp.1 (fun b b0 b1 => q11.1.2.2.1.qln b b0 b1) (i := 5) (by omega) (by omega) (fun j => by rw [e13, up_ji, e90]; rfl)
    refine fin h13 (q11.act ⟨fun k _ k2 _ _ _ => k13 k k2, fun j _ _ _ => by rw [k13 12 (by decide)]⟩ ⟨hp, q11.1.2.1.congr (fun k k1 k2 => k13 k (by omega)), ei.1, row⟩ (q11.2.1.f12 (k13 12 (by decide))))
  refine ⟨by omega, fun z => rest (fun u => by omega), fun z => ⟨by omega, fun z2 => rest (fun u => by omega), fun z2 => draw_r (by omega) q1.2.2.1 (fun h17 f17 g17 e17 => ?_)⟩⟩
  have c1 : kd < 3 ∧ 0 < π 0 0 := by omega
  rw [if_pos c1] at ei
  simp only [if_pos c1] at fin
  have r := mod_rng (s := nxA (nxA s)) c1.2
  have q17 := q1.draw f17 g17 e17
  refine ⟨by omega, fun c2 => ⟨by omega, fun c3 => ?_, fun c3 => draw_r (by omega) q17.2.2.1 (fun h25 f25 g25 e25 => ?_)⟩, fun c2 => draw_r (by omega) q17.2.2.1 (fun h29 f29 g29 e29 => ?_)⟩
  · rw [if_neg c2, if_neg c3] at ei
    simp only [if_neg c2, if_neg c3] at fin
    refine drop_r q17.1 r.1 r.2 (fun h23 f23 x23 => fin h23 (q17.act ⟨fun k _ k2 _ _ _ => f23 k k2, fun j _ _ _ => by rw [f23 12 (by decide)]⟩ ⟨hp, x23.2.1, ei.1, x23.2.2.2⟩ (q17.2.1.f12 (f23 12 (by decide)))))
  · rw [if_neg c2, if_pos c3] at ei
    simp only [if_neg c2, if_pos c3] at fin
    have q25 := q17.draw f25 g25 e25
    have r2 := mod_rng (s := nxA (nxA (nxA s))) (show (0 : Int) < 100 by omega)
    obtain ⟨w, w0, ci, e0, e1', e6⟩ := chg_ok (k := 1) (m := btA (nxA (nxA (nxA s))) % 100 + 1) hp q.1.2.2.1 r.1 r.2 (Or.inl rfl) (by omega)
    refine bend_r q25.1 r.1 r.2 (by omega) w w0 (fun h27 f27 x27 => fin h27 (q25.act ⟨fun k _ k2 k3 _ _ => f27 k k2 k3, fun j _ _ _ => by rw [f27 12 (by decide) (by decide)]⟩ ⟨hp, x27.2.1, ei.1, x27.2.2.2⟩ (q25.2.1.f12 (f27 12 (by decide) (by decide)))))
  · rw [if_pos c2] at ei
    simp only [if_pos c2] at fin
    have q29 := q17.draw f29 g29 e29
    have r2 := mod_rng (s := nxA (nxA (nxA s))) (show (0 : Int) < 64 by omega)
    refine isLeaf_r hp.1 q29.1.2.1 r.1 r.2 (fun y hy hq => ⟨by omega, fun z3 => fin h29 ?_, fun z3 => ?_⟩)
    · rw [if_neg (fun u => by have := hq.mpr u; omega)]
      exact ⟨⟨hp, q29.1.2.1, q29.1.2.2.1.mono (by omega), q29.1.2.2.2⟩, q29.2⟩
    · have kl := hq.mp (by omega)
      simp only [if_pos kl] at fin ei
      refine comes_r q29.1 r.1 r.2 kl (by omega) (fun y3 h36 _ _ f36 x36 => fin h36 (q29.act f36.u x36 ?_))
      have := q29.2.1
      unfold IdleR at *
      rw [f36.2 29 (by decide) (by decide), f36.2 32 (by decide) (by decide), f36.2 31 (by decide) (by decide), f36.2 33 (by decide) (by decide)]; exact this
theorem years_r {h : HP} {π : PL} {K s n a : Int} {σ : ST} {P : Int → HP → Prop} (x0 : RY h π K σ) (hT : σ 0 0 0 ≤ 2000) (hn : inR n) (ha : inR a)
    (k : ∀ h' y e v, OkR h h' e → yearsV π σ s n a = (e, v) → (e = 0 → y = v) → P y h') : wX12_years 7 s n a h P := by
  unfold wX12_years
  intro h1 e1
  have o1 : OkR h h1 0 := by rw [e1]; exact OkR.start x0.2 0
  have y1 := x0.ok o1
  have x := y1.1
  have inv := x.2.2.1
  have t0 := inv.1
  refine isIn_r ha (by omega) (by omega) (fun y3 hy3 hq3 => ⟨by omega, fun z3 => ?_, fun z3 => fail_r (k _ 0 1 0 (o1.fail 1) (by unfold yearsV; rw [if_neg (fun u => by have := hq3.mpr u; omega)]) (fun z => by omega))⟩)
  have ra := hq3.mp (by omega)
  refine isIn_r hn (by omega) (by omega) (fun y5 hy5 hq5 => ⟨by omega, fun z5 => ?_, fun z5 => fail_r (k _ 0 2 0 (o1.fail 2) (by unfold yearsV; rw [if_pos ra, if_neg (fun u => by have := hq5.mpr u; omega)]) (fun z => by omega))⟩)
  have rn := hq5.mp (by omega)
  refine remember_s (fun h10 f10 s10 h11 e11 => ?_)
  have q10 : YrR h1 h10 π K σ (h10 12 7 47) := ⟨x.f63 f10, y1.2.f12 (f10 12 (by decide)), rfl, s10, by rw [f10 12 (by decide)]⟩
  have q11 : YrR h1 h11 π K σ s := q10.draw (fun k hk => by rw [e11, up_k hk]) (fun j hj => by rw [e11, up_j hj]) (by rw [e11, up_eq])
  refine sent_r q11.1 (lost_r q11.1 ?_)
  have fin : ∀ (hh : HP) (v : Int) (K' : Int) (τ : ST) (s' : Int), YrR h1 hh π K' τ s' → (if a = 0 then sentA π (yrN π (σ, s) n.toNat).1.1 - sentA π σ else if a = 1 then lostA π (yrN π (σ, s) n.toNat).1.1 - lostA π σ else (yrN π (σ, s) n.toNat).2) = v → wX12_back 7 v hh (fun x24 h23 => P x24 h23) := by
    intro hh v K' τ s' q e
    exact back_s q.2.2.2.1 (fun h' g1 g2 g3 => k h' v 0 v (o1.two g2 (q.2.1.f12 (g1 12 (by decide))) (by rw [g1 12 (by decide)]; exact q.2.2.2.2)) (by unfold yearsV; rw [if_pos ra, if_pos rn, e]) (fun _ => rfl))
  have loop : ∀ (d m : Nat) (hh : HP), n.toNat - m = d → m ≤ n.toNat → YrR h1 hh π (K + m) (yrN π (σ, s) m).1.1 (yrN π (σ, s) m).1.2 →
      wX12_years_63 7 s n a (sentA π σ) (lostA π σ) (fun l25 h26 => (-2147483648 ≤ a ∧ a < 2147483648) ∧ ((¬ a = 0 → (-2147483648 ≤ a ∧ a < 2147483648) ∧ ((¬ a = 1 → wX12_back 7 l25 h26 (fun x32 h31 => P x32 h31)) ∧ (a = 1 → wX12_lostNow 7 h26 (fun x34 h33 => wX12_back 7 (x34 - lostA π σ) h33 (fun x36 h35 => P x36 h35))))) ∧ (a = 0 → wX12_sentNow 7 h26 (fun x38 h37 => wX12_back 7 (x38 - sentA π σ) h37 (fun x40 h39 => P x40 h39))))) (d + 1) (yrN π (σ, s) m).2 m hh := by
    intro d
    induction d with
    | zero =>
      intro m hh hd hm q
      have e : m = n.toNat := by omega
      subst e
      rw [wX12_years_63]
      exact ⟨by omega, by omega, fun _ => ⟨ha, fun c0 => ⟨ha, fun c1 => fin hh _ _ _ _ q (by rw [if_neg c0, if_neg c1]), fun c1 => lost_r q.1 (fin hh _ _ _ _ q (by rw [if_neg c0, if_pos c1]))⟩, fun c0 => sent_r q.1 (fin hh _ _ _ _ q (by rw [if_pos c0]))⟩, fun u => absurd (by omega) u⟩
    | succ d ih =>
      intro m hh hd hm q
      have yi := yrN_inv (s := s) x.1 inv hT m (by omega)
      have yi1 := yrN_inv (s := s) x.1 inv hT (m + 1) (by omega)
      rw [wX12_years_63]
      refine ⟨by omega, by omega, fun u => absurd u (by omega), fun _ => happen_r q (by omega) (fun h19 q19 => ?_)⟩
      have q19' : YrR h1 h19 π (K + ((m + 1 : Nat) : Int)) (yrN π (σ, s) (m + 1)).1.1 (yrN π (σ, s) (m + 1)).1.2 := by
        rw [show K + ((m + 1 : Nat) : Int) = K + (m : Int) + 1 by omega]; exact q19
      have hr := yi1.1.hel_rng x.1.1 12
      refine packets_r q19'.1 ?_
      rw [allQ_hel x.1.1]
      exact ⟨by omega, by omega, ih (m + 1) h19 (by omega) (by omega) q19'⟩
  exact ⟨_, loop n.toNat 0 h11 rfl (by omega) ⟨⟨q11.1.1, q11.1.2.1, q11.1.2.2.1.mono (by omega), q11.1.2.2.2⟩, q11.2⟩⟩
