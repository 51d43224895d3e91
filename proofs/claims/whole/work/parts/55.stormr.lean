/-! storms: the reference -/
def wtM (s tn : Int) : Nat → Int
  | 0 => 1
  | m + 1 => wtM s tn m * (if bAnd (bShr s m) 1 = 1 then tn else 10 - tn)
noncomputable def stN (π : PL) (σ : ST) (f : Int) (n : Nat) (tn mo : Int) : Nat → Int
  | 0 => 0
  | s + 1 => stN π σ f n tn mo s + (if hel π (goZ π f s 100 σ 0) 12 ≤ mo then wtM s tn n else 0)
theorem shl_1 {n : Int} (h : 1 ≤ n ∧ n ≤ 5) : bShl 1 n = 2 ^ n.toNat ∧ 2 ≤ bShl 1 n ∧ bShl 1 n ≤ 32 := by
  have : n = 1 ∨ n = 2 ∨ n = 3 ∨ n = 4 ∨ n = 5 := by omega
  rcases this with u | u | u | u | u <;> subst u <;> decide
theorem weight_r {f n tn mo l5 s : Int} {h : HP} {Ko : Int → Prop} (hn : 1 ≤ n ∧ n ≤ 5) (k : Ko (wtM s tn n.toNat)) : ∃ g : Nat, wX12_storms_81 7 f n tn mo l5 s h Ko g 1 0 := by
  have loop : ∀ (d m : Nat), n.toNat - m = d → m ≤ n.toNat → wX12_storms_81 7 f n tn mo l5 s h Ko (d + 1) (wtM s tn m) m := by
    intro d
    induction d with
    | zero =>
      intro m hd hm
      have e : m = n.toNat := by omega
      subst e
      rw [wX12_storms_81]
      exact ⟨by omega, by omega, fun _ => k, fun u => absurd (by omega) u⟩
    | succ d ih =>
      intro m hd hm
      have b := bAnd1_all (bShr s m)
      rw [wX12_storms_81]
      refine ⟨by omega, by omega, fun u => absurd u (by omega), fun _ => ⟨by omega, fun t25 h25 => ?_⟩⟩
      have e : wtM s tn (m + 1) = wtM s tn m * t25 := by
        show wtM s tn m * (if bAnd (bShr s m) 1 = 1 then tn else 10 - tn) = _
        by_cases u : bAnd (bShr s m) 1 = 1
        · rw [if_pos u, h25.2 u]
        · rw [if_neg u, h25.1 u]
      rw [← e]
      exact ih (m + 1) (by omega) (by omega)
  exact ⟨_, loop _ 0 rfl (by omega)⟩
noncomputable def stormsV (π : PL) (σ : ST) (f n tn mo : Int) : Int × Int := if 0 ≤ f ∧ f < π 0 1 then (if (1 ≤ n ∧ n ≤ 5) ∧ 0 ≤ tn ∧ tn ≤ 10 then (0, stN π σ f n.toNat tn mo (2 ^ n.toNat)) else (2, 0)) else (1, 0)
theorem storms_r {h : HP} {π : PL} {K f n tn mo : Int} {σ : ST} {P : Int → HP → Prop} (x0 : RY h π K σ) (hT : σ 0 0 0 ≤ 2000) (hf : inR f) (hn : inR n) (ht : inR tn) (hm : inR mo)
    (k : ∀ h' y e v, OkR h h' e → stormsV π σ f n tn mo = (e, v) → (e = 0 → y = v) → P y h') : wX12_storms 7 f n tn mo h P := by
  unfold wX12_storms
  intro h1 e1
  have o1 : OkR h h1 0 := by rw [e1]; exact OkR.start x0.2 0
  have y1 := x0.ok o1
  have x := y1.1
  have inv := x.2.2.1
  have t0 := inv.1
  have n8 := x.1.2.1
  rw [x.2.1.1.2]
  refine isIn_r hf (by omega) (by omega) (fun y hy hq => ⟨by omega, fun z => ?_, fun z => fail_r (k _ 0 1 0 (o1.fail 1) (by unfold stormsV; rw [if_neg (fun u => by have := hq.mpr (by omega); omega)]) (fun z => by omega))⟩)
  have rf := hq.mp (by omega)
  have rf' : 0 ≤ f ∧ f < π 0 1 := by omega
  have ff : ¬ ((1 ≤ n ∧ n ≤ 5) ∧ 0 ≤ tn ∧ tn ≤ 10) → P 0 (up h1 12 7 1 2) := fun nb => k _ 0 2 0 (o1.fail 2) (by unfold stormsV; rw [if_pos rf', if_neg nb]) (fun z => by omega)
  refine isIn_r hn (by omega) (by omega) (fun y2 hy2 hq2 => ⟨by omega, fun z2 => fail_r (ff (fun u => by have := hq2.mpr u.1; omega)), fun z2 => ?_⟩)
  refine isIn_r ht (by omega) (by omega) (fun y3 hy3 hq3 => ⟨by omega, fun z3 => ?_, fun z3 => fail_r (ff (fun u => by have := hq3.mpr u.2; omega))⟩)
  have rn := hq2.mp (by omega)
  have rt := hq3.mp (by omega)
  have sh := shl_1 rn
  obtain ⟨i1, i2, i3, i4⟩ := y1.2
  refine remember_s (fun h16 f16 s16 h17 e17 => ?_)
  have k17 : ∀ k, k ≠ 12 → h17 k = h16 k := fun k hk => by rw [e17, up_k hk]
  have j17 : ∀ j, j ≠ 29 → h17 12 7 j = h1 12 7 j := fun j hj => by rw [e17, up_j hj, f16 12 (by decide)]
  have s17 : FrS h1 h17 := ⟨fun k k1 k2 k3 k4 k5 k6 k7 k8 k9 k10 => by rw [k17 k k1]; exact s16.1 k k1 k2 k3 k4 k5 k6 k7 k8 k9 k10, fun j q => j17 j (fun z => q (by rw [z]; unfold scrJ; omega)), fun j j0 j1 => by rw [k17 63 (by decide)]; exact s16.2.2 j j0 j1⟩
  have q17 : FrQR h1 h17 := ⟨fun k k1 _ _ _ _ k6 _ _ _ _ => by rw [k17 k k1, f16 k k6], s17.2.1, fun j _ _ => by rw [k17 56 (by decide), f16 56 (by decide)]⟩
  have loop : ∀ (d m : Nat) (hh : HP), 2 ^ n.toNat - m = d → m ≤ 2 ^ n.toNat → FrQR h1 hh → FrS h1 hh → hh 12 7 29 = f → (0 ≤ hh 12 7 31 ∧ hh 12 7 31 ≤ 1000) → hh 12 7 32 = -1 → hh 12 7 33 = h1 12 7 33 → hh 12 7 1 = h1 12 7 1 →
      wX12_storms_67 7 f n tn mo (fun l45 h46 => ∀ h47 : HP, h47 = up h46 12 7 29 (-1) → P l45 h47) (d + 1) (stN π σ f n.toNat tn mo m) m hh := by
    intro d
    induction d with
    | zero =>
      intro m hh hd hm' q s c29 c31 c32 c33 ec
      have e : m = 2 ^ n.toNat := by omega
      have em : (m : Int) = bShl 1 n := by rw [sh.1, e]; push_cast; rfl
      rw [wX12_storms_67, ← em]
      refine ⟨by omega, by omega, fun _ h47 e47 => ?_, fun u => absurd (Int.le_refl _) u⟩
      have j47 : ∀ j, j ≠ 29 → h47 12 7 j = hh 12 7 j := fun j hj => by rw [e47, up_j hj]
      refine k h47 _ 0 _ (o1.two (q.tr (by rw [e47]; exact FrQR.up12 (by unfold scrJ; omega))) ?_ (by rw [j47 1 (by decide)]; exact ec)) (by unfold stormsV; rw [if_pos rf', if_pos ⟨rn, rt⟩, ← e]) (fun _ => rfl)
      unfold IdleR
      rw [j47 32 (by decide), j47 31 (by decide), j47 33 (by decide), e47, up_eq, c32, c33]
      exact ⟨rfl, rfl, c31, i4⟩
    | succ d ih =>
      intro m hh hd hm' q s c29 c31 c32 c33 ec
      have em : (m : Int) < bShl 1 n := by
        rw [sh.1]
        have : m < 2 ^ n.toNat := by omega
        exact_mod_cast this
      rw [wX12_storms_67]
      refine ⟨by omega, by omega, fun u => absurd u (by omega), fun _ => weight_r rn (fun h31 e31 h32 e32 => ?_)⟩
      have k32 : ∀ k, k ≠ 12 → h32 k = hh k := fun k hk => by rw [e32, up_k hk, e31, up_k hk]
      have j32 : ∀ j, j ≠ 30 → j ≠ 31 → h32 12 7 j = hh 12 7 j := fun j a b => by rw [e32, up_j b, e31, up_j a]
      have v30 : h32 12 7 30 = m := by rw [e32, up_j (by decide), e31, up_eq]
      have v31 : h32 12 7 31 = 0 := by rw [e32, up_eq]
      have xh := x.qr q
      have x32 : RX h32 π K σ := ⟨x.1, xh.2.1.congr (fun k k1 k2 => k32 k (by omega)), inv, by rw [k32 56 (by decide)]; exact xh.2.2.2⟩
      have s32 : FrS h1 h32 := ⟨fun k k1 k2 k3 k4 k5 k6 k7 k8 k9 k10 => by rw [k32 k k1]; exact s.1 k k1 k2 k3 k4 k5 k6 k7 k8 k9 k10, fun j q' => by rw [j32 j (fun z => q' (by rw [z]; unfold scrJ; omega)) (fun z => q' (by rw [z]; unfold scrJ; omega))]; exact s.2.1 j q', fun j j0 j1 => by rw [k32 63 (by decide)]; exact s.2.2 j j0 j1⟩
      refine goOn_r x32 (by omega) (by rw [j32 29 (by decide) (by decide), c29]; omega) (by rw [v31]; omega) (by rw [j32 32 (by decide) (by decide)]; exact c32) (by rw [j32 33 (by decide) (by decide), c33]; exact i4) (fun h33 g1 g2 g3 g4 g5 => ?_)
      rw [j32 29 (by decide) (by decide), c29, v30, v31] at g2
      rw [v31] at g5
      refine packets_r g2 ?_
      rw [allQ_hel x.1.1]
      have hr := g2.2.2.1.hel_rng x.1.1 12
      unfold inR at hm
      refine ⟨⟨by omega, by omega⟩, fun t38 h38 => back_s (s32.u g1) (fun h40 b1 b2 b3 => ?_)⟩
      have e38 : stN π σ f n.toNat tn mo m + t38 = stN π σ f n.toNat tn mo (m + 1) := by
        show _ = stN π σ f n.toNat tn mo m + (if hel π (goZ π f m 100 σ 0) 12 ≤ mo then wtM m tn n.toNat else 0)
        by_cases u : mo < hel π (goZ π f m 100 σ 0) 12
        · rw [if_neg (by omega), h38.1 u]
        · rw [if_pos (by omega), h38.2 u]
      rw [e38]
      have z12 : h40 12 = h33 12 := b1 12 (by decide)
      exact ih (m + 1) h40 (by omega) (by omega) b2 b3 (by rw [z12, g1.2 29 (by decide) (by decide) (by decide), j32 29 (by decide) (by decide)]; exact c29) (by rw [z12]; omega) (by rw [z12, g1.2 32 (by decide) (by decide) (by decide), j32 32 (by decide) (by decide)]; exact c32) (by rw [z12, g3, j32 33 (by decide) (by decide)]; exact c33) (by rw [z12, g1.2 1 (by decide) (by decide) (by decide), j32 1 (by decide) (by decide)]; exact ec)
  exact ⟨_, loop _ 0 h17 rfl (Nat.zero_le _) q17 s17 (by rw [e17, up_eq]) (by rw [j17 31 (by decide)]; exact i3) (by rw [j17 32 (by decide)]; exact i2) (by rw [j17 33 (by decide)]) (by rw [j17 1 (by decide)])⟩
