/-! longest: the reference -/
theorem cameP_at {g : Int → Int} {wc t : Int} (w0 : 0 ≤ wc) : ∀ (n : Nat), wc + n ≤ 420 → ∀ i, cameP g wc t n i = if wc ≤ i ∧ i < wc + n then t else g i := by
  intro n
  induction n with
  | zero => intro _ i; rw [if_neg (by omega)]; rfl
  | succ n ih =>
    intro hn i
    show (if i = (wc + n) % 420 then t else cameP g wc t n i) = _
    rw [Int.emod_eq_of_lt (by omega) (by omega), ih (by omega)]
    by_cases z : i = wc + n
    · rw [if_pos z, if_pos (by omega)]
    · rw [if_neg z]
      by_cases y : wc ≤ i ∧ i < wc + n
      · rw [if_pos y, if_pos (by omega)]
      · rw [if_neg y, if_neg (by omega)]
theorem longest_r {h : HP} {π : PL} {K leaf n : Int} {σ : ST} {P : Int → HP → Prop} (x0 : RY h π K σ) (hT : σ 0 0 0 ≤ 2000) (hc : inR leaf) (hn : inR n)
    (k : ∀ h' y e v, OkR h h' e → longestV π σ leaf n = (e, v) → (e = 0 → y = v) → P y h') : wX12_longest 7 leaf n h P := by
  unfold wX12_longest
  intro h1 e1
  have o1 : OkR h h1 0 := by rw [e1]; exact OkR.start x0.2 0
  have y1 := x0.ok o1
  have x := y1.1
  have n12 := x.1.1.2.1
  have t0 := x.2.2.1.1
  refine isLeafThere_r x.1 x.2.1 hc (fun y2 hy2 hq2 => ⟨by omega, fun z2 => ?_, fun z2 => fail_r (k _ 0 1 0 (o1.fail 1) (by unfold longestV; rw [if_neg (fun u => by have := hq2.mpr u; omega)]) (fun z => by omega))⟩)
  have q := hq2.mp (by omega)
  obtain ⟨⟨l0, l1⟩, hk⟩ := id q
  refine isIn_r hn (by omega) (by omega) (fun y5 hy5 hq5 => ⟨by omega, fun z5 => ?_, fun z5 => fail_r (k _ 0 2 0 (o1.fail 2) (by unfold longestV; rw [if_pos q, if_neg (fun u => by have := hq5.mpr u; omega)]) (fun z => by omega))⟩)
  have rn := hq5.mp (by omega)
  have ql := x.2.2.1.qln leaf l0 l1
  refine remember_s (fun h10 f10 s10 => ?_)
  have x10 := x.f63 f10
  rw [(x10.2.2.2.2.2 leaf l0 l1).1.2.2.2.2.2]
  refine ⟨by omega, fun h12 e12 h13 e13 => ?_⟩
  have k13 : ∀ k, k ≠ 12 → h13 k = h10 k := fun k hk => by rw [e13, up_k hk, e12, up_k hk]
  have j13 : ∀ j, j ≠ 32 → j ≠ 33 → h13 12 7 j = h10 12 7 j := fun j j1 j2 => by rw [e13, up_j j2, e12, up_j j1]
  have w13 : h13 12 7 32 = leaf := by rw [e13, up_j (by decide), e12, up_eq]
  have v13 : h13 12 7 33 = 0 := by rw [e13, up_eq]
  have x13 : RX h13 π K σ := ⟨x.1, x10.2.1.congr (fun k k1 k2 => k13 k (by omega)), x.2.2.1, by rw [k13 56 (by decide)]; exact x10.2.2.2⟩
  have s13 : FrS h1 h13 := ⟨fun k k1 k2 k3 k4 k5 k6 k7 k8 k9 k10 => by rw [k13 k k1]; exact s10.1 k k1 k2 k3 k4 k5 k6 k7 k8 k9 k10, fun j q => by
    have q' : ¬ (j = 1 ∨ (22 < j ∧ j < 34) ∨ (42 < j ∧ j < 50)) := q
    rw [j13 j (by omega) (by omega)]; exact s10.2.1 j q, fun j j0 j1 => by rw [k13 63 (by decide)]; exact s10.2.2 j j0 j1⟩
  obtain ⟨id1, id2, id3, id4⟩ := y1.2
  generalize hV : longestV π σ leaf n = V at *
  unfold longestV at hV
  rw [if_pos q, if_pos rn] at hV
  unfold lgR at hV
  -- what goes on
  have loop : ∀ (d : Nat) (m : Int) (s : LG) (hh : HP) (ρ : ST), (n - m).toNat = d → 0 ≤ m → m ≤ n → FrS h1 hh → hh 12 7 1 = h1 12 7 1 → hh 12 7 29 = -1 → hh 12 7 31 = h1 12 7 31 → hh 12 7 32 = leaf → hh 12 7 33 = s.2.1 → (∀ i, 0 ≤ i → i < s.2.1 → hh 61 7 i = s.2.2.2.2 i) → RX hh π K ρ → ρ 0 0 0 = σ 0 0 0 + m → LgI leaf m ρ s → ((0 : Int), runA π (lgS leaf) (fun s => s.2.2.2.1) d ρ s) = V →
      wX12_longest_73 7 leaf n (fun l37 h38 => ∀ h39 : HP, h39 = up h38 12 7 32 (-1) → wX12_back 7 l37 h39 (fun x41 h40 => P x41 h40)) (d + 1) s.1 s.2.2.1 s.2.2.2.1 m hh := by
    intro d
    induction d with
    | zero =>
      intro m s hh ρ hd m0 m1 sf ec c29 c31 c32 c33 ccm xx tt I hv
      rw [wX12_longest_73]
      refine ⟨by omega, by omega, fun _ h39 e39 => ?_, fun c => absurd (by omega) c⟩
      have i6 := I.2.2.2.1
      have old0 := I.2.1
      have i1 := I.1
      have i3 := I.2.2.1
      have qq := xx.2.2.1.qln leaf l0 l1
      have j39 : ∀ j, j ≠ 32 → h39 12 7 j = hh 12 7 j := fun j hj => by rw [e39, up_j hj]
      have s39 : FrS h1 h39 := ⟨fun k k1 k2 k3 k4 k5 k6 k7 k8 k9 k10 => by rw [e39, up_k k1]; exact sf.1 k k1 k2 k3 k4 k5 k6 k7 k8 k9 k10, fun j q => by
        have q' : ¬ (j = 1 ∨ (22 < j ∧ j < 34) ∨ (42 < j ∧ j < 50)) := q
        rw [j39 j (by omega)]; exact sf.2.1 j q, fun j j0 j1 => by rw [e39, up_k (by decide)]; exact sf.2.2 j j0 j1⟩
      refine back_s s39 (fun h' g1 g2 g3 => ?_)
      have g12 : h' 12 = h39 12 := g1 12 (by decide)
      refine k h' _ 0 _ (o1.two g2 ?_ ?_) hv.symm (fun _ => rfl)
      · unfold IdleR
        rw [g12, j39 29 (by decide), j39 31 (by decide), j39 33 (by decide), e39, up_eq, c29, c31, c33]
        omega
      · rw [g12, j39 1 (by decide)]; exact ec
    | succ d ih =>
      intro m s hh ρ hd m0 m1 sf ec c29 c31 c32 c33 ccm xx tt I hv
      have hd1 : (n - (m + 1)).toNat = d := by omega
      have inO := I.2.2.2.1
      have old0 := I.2.1
      have out0 := I.2.2.1
      have i1 := I.1
      have lon := I.2.2.2.2.1
      have qq := xx.2.2.1.qln leaf l0 l1
      obtain ⟨st1, st2, st3, st4, st5⟩ := lg_step x.1 xx.2.2.1 (by omega) l0 l1 I
      have li := lgLeft_iff x.1 xx.2.2.1 l0
      have lc := lg_come x.1 xx.2.2.1 l0 l1
      have ut := (unitA_time x.1 xx.2.2.1).1
      rw [wX12_longest_73]
      refine ⟨by omega, by omega, fun c => absurd c (by omega), fun _ => unit_r xx (by omega) ⟨by omega, by omega, by omega, by omega⟩ (fun h17 u1 u2 u3 u4 u5 => ?_)⟩
      rw [c29, suppW_none] at u3 u4 u5
      rw [c29, toldN_none] at u2
      rw [unitW_none] at u3
      rw [tellsW_none _ (fun f _ => by omega)] at u4 u5
      have ch : h17 12 7 26 = chU π ρ := u5.1
      have ac : accN ρ (tellsA π (π 0 1).toNat ρ) leaf = lgCome leaf ρ (unitA π ρ) := by unfold accN; rw [if_pos l0, lc]
      obtain ⟨w1, w2⟩ := u4
      rw [c32, ac, c33] at w1 w2
      have cm : ∀ i, 0 ≤ i → i < s.2.1 + lgCome leaf ρ (unitA π ρ) → h17 61 7 i = lgCm leaf s ρ (unitA π ρ) i := by
        intro i i0 i1
        have eN : ((lgCome leaf ρ (unitA π ρ)).toNat : Int) = lgCome leaf ρ (unitA π ρ) := Int.toNat_of_nonneg st2
        rw [w2, cameP_at (by omega) _ (by omega), eN]
        unfold lgCm
        by_cases z : s.2.1 ≤ i ∧ i < s.2.1 + lgCome leaf ρ (unitA π ρ)
        · rw [if_pos z, if_pos z]
        · rw [if_neg z, if_neg z]
          exact ccm i i0 (by omega)
      have out420 : s.2.2.1 % 420 = s.2.2.1 := Int.emod_eq_of_lt out0.1 (by omega)
      rw [ch, u3.2.2.2.1.1, ut, out420, show ρ 0 0 0 + 1 - 1 = ρ 0 0 0 by omega]
      have cr := (unit_ch x.1 xx.2.2.1).1
      refine ⟨⟨by omega, by omega, fun c => ⟨by omega, fun c2 => ⟨by omega, by omega, by omega, ?_⟩⟩⟩, fun t25 t26 t27 ht => ?_⟩
      · have ol := st4 c c2
        have r := st5 s.2.2.1 out0.1 ol
        rw [cm _ out0.1 ol]; omega
      · have eN : lgN leaf s ρ (unitA π ρ) = (t25, s.2.1 + lgCome leaf ρ (unitA π ρ), t26, t27, lgCm leaf s ρ (unitA π ρ)) := by
          unfold lgN
          by_cases c : chU π ρ = leaf
          · rw [if_pos (li.mpr c)]
            by_cases c2 : s.1 ≤ 0
            · have ol := st4 c c2
              obtain ⟨r1, r2, r3⟩ := (ht.1 c).1 c2
              rw [cm _ out0.1 ol] at r3
              rw [if_neg (by omega), r1, r2, r3]
            · obtain ⟨r1, r2, r3⟩ := (ht.1 c).2 c2
              rw [if_pos (by omega), r1, r2, r3]
              rfl
          · obtain ⟨r1, r2, r3⟩ := ht.2 c
            rw [if_neg (fun u => c (li.mp u)), r1, r2, r3]
        have st : lgS leaf s ρ (unitA π ρ) = Sum.inl (t25, s.2.1 + lgCome leaf ρ (unitA π ρ), t26, t27, lgCm leaf s ρ (unitA π ρ)) := by unfold lgS; rw [eN]
        rw [runA_l st] at hv
        rw [eN] at st1
        exact ih (m + 1) (t25, s.2.1 + lgCome leaf ρ (unitA π ρ), t26, t27, lgCm leaf s ρ (unitA π ρ)) h17 _ hd1 (by omega) (by omega) (sf.u u1) (by rw [u1.2 1 (by decide) (by decide) (by decide)]; exact ec) (by rw [u1.2 29 (by decide) (by decide) (by decide)]; exact c29) (by rw [u2]; omega) (by rw [u1.2 32 (by decide) (by decide) (by decide)]; exact c32) w1 cm u3 (by omega) st1 hv
  have I0 : LgI leaf 0 σ (σ 6 leaf 0, 0, 0, -1, fun _ => 0) := by
    refine ⟨?_, ql.1, ⟨Int.le_refl (0 : Int), Int.le_refl (0 : Int)⟩, Int.le_refl (0 : Int), ⟨(by decide : (-1 : Int) ≤ -1), (by decide : (-1 : Int) ≤ 2700)⟩, fun i i0 i1 => ?_⟩
    · show σ 6 leaf 0 = σ 6 leaf 0 + 0 - 0; omega
    · have i1' : i < (0 : Int) := i1
      omega
  exact ⟨_, loop n.toNat 0 (σ 6 leaf 0, 0, 0, -1, fun _ => 0) h13 σ (by rw [show n - 0 = n by omega]) (by omega) (by omega) s13 (by rw [j13 1 (by decide) (by decide), f10 12 (by decide)]) (by rw [j13 29 (by decide) (by decide), f10 12 (by decide)]; exact id1) (by rw [j13 31 (by decide) (by decide), f10 12 (by decide)]) w13 v13 (fun i i0 i1 => by have i1' : i < (0 : Int) := i1; omega) x13 (by omega) I0 hV⟩
