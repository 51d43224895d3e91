/-! other, look: the reference -/
def goodN (π : PL) (σ ρ : ST) (nt : PL) (j : Int) : Prop := goA π (nt 1 j).toNat ρ 1 (nt 0 j) 0 - σ 1 (nt 0 j) 0 = nt 2 j
def FrI (h h' : HP) : Prop := (∀ k, k ≠ 12 → k ≠ 56 → k ≠ 59 → k ≠ 60 → k ≠ 61 → k ≠ 67 → h' k = h k) ∧ (∀ j, (j < 23 ∨ 28 < j ∨ j = 25) → j ≠ 31 → j ≠ 33 → h' 12 7 j = h 12 7 j)
theorem FrI.rf (h : HP) : FrI h h := ⟨fun _ _ _ _ _ _ _ => rfl, fun _ _ _ _ => rfl⟩
theorem FrI.tr {h h' h'' : HP} (a : FrI h h') (b : FrI h' h'') : FrI h h'' := ⟨fun k k1 k2 k3 k4 k5 k6 => by rw [b.1 k k1 k2 k3 k4 k5 k6, a.1 k k1 k2 k3 k4 k5 k6], fun j j1 j2 j3 => by rw [b.2 j j1 j2 j3, a.2 j j1 j2 j3]⟩
theorem FrU.i {h h' : HP} (a : FrU h h') : FrI h h' := ⟨fun k k1 k2 k3 k4 k5 _ => a.1 k k1 k2 k3 k4 k5, a.2⟩
theorem FrI.k {h h' : HP} (a : ∀ k, k ≠ 67 → h' k = h k) : FrI h h' := ⟨fun k _ _ _ _ _ k6 => a k k6, fun j _ _ _ => by rw [a 12 (by decide)]⟩
theorem FrI.k56 {h h' : HP} (a : ∀ k, k ≠ 56 → h' k = h k) : FrI h h' := ⟨fun k _ k2 _ _ _ _ => a k k2, fun j _ _ _ => by rw [a 12 (by decide)]⟩
theorem FrS.i {h0 h h' : HP} (a : FrS h0 h) (b : FrI h h') : FrS h0 h' := ⟨fun k k1 k2 k3 k4 k5 k6 k7 k8 k9 k10 => by rw [b.1 k k1 k2 k3 k4 k5 k7, a.1 k k1 k2 k3 k4 k5 k6 k7 k8 k9 k10], fun j q => by
  have q' : ¬ (j = 1 ∨ (22 < j ∧ j < 34) ∨ (42 < j ∧ j < 50)) := q
  rw [b.2 j (by omega) (by omega) (by omega), a.2.1 j q], fun j j0 j1 => by rw [b.1 63 (by decide) (by decide) (by decide) (by decide) (by decide) (by decide)]; exact a.2.2 j j0 j1⟩
theorem FrS.e8 {h0 h h' : HP} (a : FrS h0 h) (b : ∀ k, k ≠ 12 → k ≠ 56 → k ≠ 67 → k ≠ 68 → k ≠ 69 → h' k = h k) (c : ∀ j, ¬ scrJ j → h' 12 7 j = h 12 7 j) : FrS h0 h' := ⟨fun k k1 k2 k3 k4 k5 k6 k7 k8 k9 k10 => by rw [b k k1 k2 k7 k8 k9, a.1 k k1 k2 k3 k4 k5 k6 k7 k8 k9 k10], fun j q => by rw [c j q, a.2.1 j q], fun j j0 j1 => by rw [b 63 (by decide) (by decide) (by decide) (by decide) (by decide)]; exact a.2.2 j j0 j1⟩
theorem IdleR.i {h h' : HP} (i : IdleR h) (e : ∀ j, j = 29 ∨ j = 31 ∨ j = 32 ∨ j = 33 → h' 12 7 j = h 12 7 j) : IdleR h' := by
  unfold IdleR at *
  rw [e 29 (by omega), e 31 (by omega), e 32 (by omega), e 33 (by omega)]; exact i
theorem chk_r {h : HP} {π : PL} {K m n : Int} {nt : PL} {σ ρ : ST} {Ko : Int → Prop} (x : RX h π K ρ) (h63 : ∀ j, 0 ≤ j → j < 3099 → h 63 7 j = σ 1 ((j - 12) / 257) 0 ∨ (j - 12) % 257 ≠ 0 ∨ 257 * π 0 0 ≤ j) (em : h 12 7 38 = m) (m8 : 0 ≤ m ∧ m ≤ 8) (hN : NoteR h 64 m nt) (ok : noteOK π m nt) (hn : 0 ≤ n ∧ n ≤ 100)
    (sr : ∀ c, 0 ≤ c → c < π 0 0 → 0 ≤ σ 1 c 0 ∧ σ 1 c 0 ≤ 10000) {y : Int} (hy : y = 0 ∨ y = 1)
    (k : ∀ y', (y' = 0 ∨ y' = 1) → (y' = 1 ↔ y = 1 ∧ ∀ j, 0 ≤ j → j < m → nt 1 j = n → ρ 1 (nt 0 j) 0 - σ 1 (nt 0 j) 0 = nt 2 j) → Ko y') : ∃ f, wX12_isAsNoted_12 7 n h Ko f y 0 := by
  have n12 := x.1.1.2.1
  have n0 := x.1.1.1
  have loop : ∀ (d : Nat) (i y1 : Int), (m - i).toNat = d → 0 ≤ i → i ≤ m → (y1 = 0 ∨ y1 = 1) → (y1 = 1 ↔ y = 1 ∧ ∀ j, 0 ≤ j → j < i → nt 1 j = n → ρ 1 (nt 0 j) 0 - σ 1 (nt 0 j) 0 = nt 2 j) → wX12_isAsNoted_12 7 n h Ko (d + 1) y1 i := by
    intro d
    induction d with
    | zero =>
      intro i y1 hd i0 i1 hy1 q
      have e : i = m := by omega
      subst e
      rw [wX12_isAsNoted_12, em]
      exact ⟨by omega, by omega, fun _ => k y1 hy1 q, fun u => absurd (Int.le_refl _) u⟩
    | succ d ih =>
      intro i y1 hd i0 i1 hy1 q
      have hd1 : (m - (i + 1)).toNat = d := by omega
      obtain ⟨o1, o2, o3⟩ := ok i i0 (by omega)
      obtain ⟨g1, g2, g3⟩ := hN i i0 (by omega)
      have g2' : h 65 7 i = nt 1 i := g2
      have g3' : h 66 7 i = nt 2 i := g3
      have now : h 56 7 (257 * nt 0 i + 12) = ρ 1 (nt 0 i) 0 := (x.2.2.2.2.2 _ o1.1 o1.2).1.1
      have was : h 63 7 (257 * nt 0 i + 12) = σ 1 (nt 0 i) 0 := by
        have := h63 (257 * nt 0 i + 12) (by omega) (by omega)
        have e : (257 * nt 0 i + 12 - 12) / 257 = nt 0 i := by omega
        rw [e] at this
        rcases this with u | u | u
        · exact u
        · omega
        · omega
      have b1 := (x.2.2.1.2.2.2.2.2.2.1 _ o1.1 o1.2).1
      have t1 := x.2.2.1.1
      have br := x.2.2.1.2.1
      have b2 := sr _ o1.1 o1.2
      rw [wX12_isAsNoted_12, em, g1, g2', g3', now, was]
      refine ⟨by omega, by omega, fun u => absurd u (by omega), fun _ => ⟨by omega, ⟨by omega, fun _ => ⟨by omega, by omega, by omega, fun _ => ⟨by omega, by omega, by omega, by omega, by omega⟩⟩⟩, fun t16 h16 => ?_⟩⟩
      obtain ⟨s1, s2⟩ := h16
      refine ih (i + 1) t16 hd1 (by omega) (by omega) ?_ ?_
      · by_cases z : y1 = 0
        · rw [s1 z]; omega
        · by_cases w : nt 1 i = n
          · by_cases v : ρ 1 (nt 0 i) 0 - σ 1 (nt 0 i) 0 = nt 2 i
            · rw [((s2 z).2 w).2 v]; omega
            · rw [((s2 z).2 w).1 v]; omega
          · rw [(s2 z).1 w]; omega
      · have split : (∀ j, 0 ≤ j → j < i + 1 → nt 1 j = n → ρ 1 (nt 0 j) 0 - σ 1 (nt 0 j) 0 = nt 2 j) ↔ (∀ j, 0 ≤ j → j < i → nt 1 j = n → ρ 1 (nt 0 j) 0 - σ 1 (nt 0 j) 0 = nt 2 j) ∧ (nt 1 i = n → ρ 1 (nt 0 i) 0 - σ 1 (nt 0 i) 0 = nt 2 i) := by
          refine ⟨fun a => ⟨fun j j0 j1 => a j j0 (by omega), a i i0 (by omega)⟩, fun a j j0 j1 e => ?_⟩
          by_cases u : j = i
          · subst u; exact a.2 e
          · exact a.1 j j0 (by omega) e
        rw [split, ← and_assoc, ← q]
        by_cases z : y1 = 0
        · rw [s1 z]
          exact ⟨fun u => by omega, fun u => by omega⟩
        · have z1 : y1 = 1 := by rcases hy1 with u | u; exact absurd u z; exact u
          by_cases w : nt 1 i = n
          · by_cases v : ρ 1 (nt 0 i) 0 - σ 1 (nt 0 i) 0 = nt 2 i
            · rw [((s2 z).2 w).2 v]
              exact ⟨fun _ => ⟨z1, fun _ => v⟩, fun _ => rfl⟩
            · rw [((s2 z).2 w).1 v]
              exact ⟨fun u => by omega, fun u => absurd (u.2 w) v⟩
          · rw [(s2 z).1 w]
            exact ⟨fun _ => ⟨z1, fun u => absurd u w⟩, fun _ => rfl⟩
  exact ⟨_, loop _ 0 y rfl (by omega) (by omega) hy ⟨fun u => ⟨u, fun j j0 j1 => by omega⟩, fun u => u.1⟩⟩
theorem sent50_r {h : HP} {π : PL} {K n y : Int} {ρ : ST} {Ko : HP → Prop} (x : RX h π K ρ) (hn : 0 ≤ n ∧ n ≤ 100)
    (k : ∀ h', (∀ k, k ≠ 67 → h' k = h k) → (n = 50 → ∀ c, 0 ≤ c → c < π 0 0 → h' 67 7 c = ρ 1 c 0) → (n ≠ 50 → h' = h) → Ko h') : ∃ f, wX12_isAsNoted_87 7 y n Ko f 0 h := by
  have n12 := x.1.1.2.1
  have n0 := x.1.1.1
  by_cases e : n = 50
  · have loop : ∀ (d : Nat) (i : Int) (hh : HP), (π 0 0 - i).toNat = d → 0 ≤ i → i ≤ π 0 0 → (∀ k, k ≠ 67 → hh k = h k) → (∀ c, 0 ≤ c → c < i → hh 67 7 c = ρ 1 c 0) → wX12_isAsNoted_87 7 y n Ko (d + 1) i hh := by
      intro d
      induction d with
      | zero =>
        intro i hh hd i0 i1 f g
        have e' : i = π 0 0 := by omega
        subst e'
        rw [wX12_isAsNoted_87, f 49 (by decide), x.2.1.1.1]
        exact ⟨by omega, by omega, fun _ => k hh f (fun _ => g) (fun u => absurd e u), fun u => absurd (Int.le_refl _) u⟩
      | succ d ih =>
        intro i hh hd i0 i1 f g
        have hd1 : (π 0 0 - (i + 1)).toNat = d := by omega
        rw [wX12_isAsNoted_87, f 49 (by decide), x.2.1.1.1]
        refine ⟨by omega, by omega, fun u => absurd u (by omega), fun _ => ⟨by omega, fun u => absurd e u, fun _ => ⟨by omega, by omega, fun h34 e34 => ih (i + 1) h34 hd1 (by omega) (by omega) (fun k hk => by rw [e34, up_k hk]; exact f k hk) (fun c c0 c1 => ?_)⟩⟩⟩
        rw [e34, up_ji, f 56 (by decide)]
        by_cases z : c = i
        · rw [if_pos z, z]; exact (x.2.2.2.2.2 i i0 (by omega)).1.1
        · rw [if_neg z]; exact g c c0 (by omega)
    exact ⟨_, loop _ 0 h rfl (by omega) (by omega) (fun _ _ => rfl) (fun c c0 c1 => by omega)⟩
  · refine ⟨1, ?_⟩
    rw [wX12_isAsNoted_87, x.2.1.1.1]
    exact ⟨by omega, by omega, fun _ => k h (fun _ _ => rfl) (fun u => absurd u e) (fun _ => rfl), fun _ => ⟨by omega, fun _ => k h (fun _ _ => rfl) (fun u => absurd u e) (fun _ => rfl), fun u => absurd u e⟩⟩
theorem isAs_r {h0 h : HP} {π : PL} {K m : Int} {nt : PL} {σ ρ : ST} {P : Int → HP → Prop} (x0 : RX h0 π K σ) (x : RX h π K ρ) (s : FrS h0 h) (ii : IdleR h) (em : h0 12 7 38 = m) (m8 : 0 ≤ m ∧ m ≤ 8) (hN : NoteR h0 64 m nt) (ok : noteOK π m nt) (ht : ρ 0 0 0 = σ 0 0 0) (hT : σ 0 0 0 ≤ 2000)
    (k : ∀ y h', (y = 0 ∨ y = 1) → (y = 1 ↔ okN π σ ρ m nt) → FrI h h' → FrQR h0 h' → FrS h0 h' → IdleR h' → (∀ c, 0 ≤ c → c < π 0 0 → h' 67 7 c = goA π 50 ρ 1 c 0) → P y h') : wX12_isAsNoted 7 h P := by
  have n12 := x.1.1.2.1
  have n0 := x.1.1.1
  have inv := x.2.2.1
  have t0 := inv.1
  have sr : ∀ c, 0 ≤ c → c < π 0 0 → 0 ≤ σ 1 c 0 ∧ σ 1 c 0 ≤ 10000 := by
    intro c c0 c1
    have := (x0.2.2.1.2.2.2.2.2.2.1 c c0 c1).1
    have := x0.2.2.1.2.1
    omega
  have row0 : ∀ c, 0 ≤ c → c < π 0 0 → h0 56 7 (257 * c + 12) = σ 1 c 0 := fun c c0 c1 => (x0.2.2.2.2.2 c c0 c1).1.1
  unfold wX12_isAsNoted
  have loop : ∀ (d n : Nat) (y : Int) (hh : HP), 101 - n = d → n ≤ 101 → (y = 0 ∨ y = 1) → (y = 1 ↔ ∀ j, 0 ≤ j → j < m → nt 1 j < n → goodN π σ ρ nt j) → FrI h hh → FrS h0 hh → IdleR hh → RX hh π K (goA π (min n 100) ρ) → (50 < n → ∀ c, 0 ≤ c → c < π 0 0 → hh 67 7 c = goA π 50 ρ 1 c 0) →
      wX12_isAsNoted_4 7 (fun l42 h43 => wX12_back 7 0 h43 (fun x45 h44 => (l42 = 0 ∨ l42 = 1) ∧ P l42 h44)) (d + 1) y n hh := by
    intro d
    induction d with
    | zero =>
      intro n y hh hd hn hy hq fi s' ii' xx s50
      have e : n = 101 := by omega
      subst e
      rw [wX12_isAsNoted_4]
      refine ⟨by omega, fun _ => back_s s' (fun h' g1 g2 g3 => ⟨hy, k y h' hy ?_ (fi.tr (FrI.k56 g1)) g2 g3 (ii'.f12 (g1 12 (by decide))) (fun c c0 c1 => by rw [g1 67 (by decide)]; exact s50 (by omega) c c0 c1)⟩), fun u => absurd (by omega) u⟩
      rw [hq]
      unfold okN
      exact ⟨fun a j j0 j1 => a j j0 j1 (by have := (ok j j0 j1).2.1; omega), fun a j j0 j1 _ => a j j0 j1⟩
    | succ d ih =>
      intro n y hh hd hn hy hq fi s' ii' xx s50
      have emin : min n 100 = n := by omega
      rw [emin] at xx
      rw [wX12_isAsNoted_4]
      have em' : hh 12 7 38 = m := by rw [s'.2.1 38 (by unfold scrJ; omega)]; exact em
      have hN' : NoteR hh 64 m nt := by
        unfold NoteR at *
        rw [s'.1 64 (by decide) (by decide) (by decide) (by decide) (by decide) (by decide) (by decide) (by decide) (by decide) (by decide), s'.1 65 (by decide) (by decide) (by decide) (by decide) (by decide) (by decide) (by decide) (by decide) (by decide) (by decide), s'.1 66 (by decide) (by decide) (by decide) (by decide) (by decide) (by decide) (by decide) (by decide) (by decide) (by decide)]; exact hN
      have h63 : ∀ j, 0 ≤ j → j < 3099 → hh 63 7 j = σ 1 ((j - 12) / 257) 0 ∨ (j - 12) % 257 ≠ 0 ∨ 257 * π 0 0 ≤ j := by
        intro j j0 j1
        by_cases u : (j - 12) % 257 = 0
        · by_cases w : 257 * π 0 0 ≤ j
          · exact Or.inr (Or.inr w)
          · left
            rw [s'.2.2 j j0 j1]
            have e : 257 * ((j - 12) / 257) + 12 = j := by omega
            have := row0 ((j - 12) / 257) (by omega) (by omega)
            rw [e] at this
            exact this
        · exact Or.inr (Or.inl u)
      refine ⟨by omega, fun u => absurd u (by omega), fun _ => chk_r (y := y) xx h63 em' m8 hN' ok (n := (n : Int)) (by omega) sr hy (fun y' hy' hq' => sent50_r xx (n := (n : Int)) (by omega) (fun h37 f37 g37 g37' => ⟨by omega, ?_⟩))⟩
      have fi37 := fi.tr (FrI.k f37)
      have s37 := s'.i (FrI.k f37)
      have ii37 := ii'.f12 (f37 12 (by decide))
      have x37 : RX h37 π K (goA π n ρ) := ⟨xx.1, xx.2.1.congr (fun k k1 k2 => f37 k (by omega)), xx.2.2.1, by rw [f37 56 (by decide)]; exact xx.2.2.2⟩
      have q37 : y' = 1 ↔ ∀ j, 0 ≤ j → j < m → nt 1 j < ((n + 1 : Nat) : Int) → goodN π σ ρ nt j := by
        rw [hq', hq]
        constructor
        · rintro ⟨a, b⟩ j j0 j1 j2
          by_cases u : nt 1 j = n
          · have := b j j0 j1 u
            unfold goodN
            rw [u, Int.toNat_natCast]; exact this
          · exact a j j0 j1 (by omega)
        · intro a
          refine ⟨fun j j0 j1 j2 => a j j0 j1 (by omega), fun j j0 j1 j2 => ?_⟩
          have := a j j0 j1 (by omega)
          unfold goodN at this
          rw [j2, Int.toNat_natCast] at this
          exact this
      have s51 : 50 < n + 1 → ∀ c, 0 ≤ c → c < π 0 0 → h37 67 7 c = goA π 50 ρ 1 c 0 := by
        intro u c c0 c1
        by_cases w : n = 50
        · subst w; exact g37 rfl c c0 c1
        · rw [g37' (by omega)]; exact s50 (by omega) c c0 c1
      unfold wX12_isAsNoted_138
      have cast : ((n + 1 : Nat) : Int) = (n : Int) + 1 := by omega
      refine ⟨fun u => ?_, fun u => ?_⟩
      · have e : n = 100 := by omega
        subst e
        have := ih 101 y' h37 (by omega) (by omega) hy' q37 fi37 s37 ii37 (by rw [show min 101 100 = 100 from rfl]; exact x37) s51
        exact this
      · refine unit0_r x37 ii37 (by have := (goA_at x.1 inv (by omega) (m := n) (by omega)).2; omega) (fun h' u1 u2 u3 _ _ => ?_)
        rw [← goA_succ] at u3
        have := ih (n + 1) y' h' (by omega) (by omega) hy' q37 (fi37.tr u1.i) (s37.u u1) u2 (by rw [show min (n + 1) 100 = n + 1 by omega]; exact u3) (fun w c c0 c1 => by rw [u1.1 67 (by decide) (by decide) (by decide) (by decide) (by decide)]; exact s51 w c c0 c1)
        rw [cast] at this
        exact this
  exact ⟨_, loop _ 0 1 h rfl (by omega) (Or.inr rfl) ⟨fun _ j j0 j1 j2 => by have := (ok j j0 j1).2.1; omega, fun _ => rfl⟩ (FrI.rf h) s ii x (fun u => by omega)⟩
