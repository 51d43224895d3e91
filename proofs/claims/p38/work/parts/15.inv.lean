theorem FOK.mono {g : Int → Int} {c c' : Int} (h : FOK g c) (q : c ≤ c') : FOK g c' := fun n hn => h n (by omega)
theorem FOK.mx {g g' : Int → Int} {c : Int} (h : FOK g c) (h' : FOK g' c) : FOK (fun n => max (g n) (g' n)) c := by
  intro n hn
  obtain ⟨a1, a2⟩ := h n hn
  obtain ⟨b1, b2⟩ := h' n hn
  refine ⟨by show 0 ≤ max (g n) (g' n); omega, fun k hk => ?_⟩
  have := a2 k hk
  have := b2 k hk
  show max (g n) (g' n) ≤ max (g (n + k)) (g' (n + k)) ∧ max (g (n + k)) (g' (n + k)) ≤ max (g n) (g' n) + (100 * k + 31)
  omega
theorem FOK.zero (c : Int) : FOK (fun _ => 0) c := fun n _ => ⟨Int.le_refl _, fun k hk => by show (0 : Int) ≤ 0 ∧ (0 : Int) ≤ 0 + (100 * k + 31); omega⟩
theorem FOK.reach {m1 d m2 x y : Int} (h1 : 0 ≤ m1) (h2 : 0 ≤ d) (h3 : d ≤ 30) (h4 : 0 < m2) (hx : 0 ≤ x) : FOK (fun n => reachA m1 d m2 x y n) y := by
  intro n hn
  refine ⟨Int.le_trans hx (reachA_x h1 h2 h4), fun k hk => ⟨reachA_mono h1 h2 h4 (by omega), reachA_grow h1 h2 h3 h4 hn hk⟩⟩
theorem reachA_up {m1 d m2 x y n : Int} (h1 : 0 ≤ m1) (h2 : 0 ≤ d) (h3 : d ≤ 30) (h4 : 0 < m2) (hn : y ≤ n) : reachA m1 d m2 x y n ≤ x + 31 + 100 * (n - y) := by
  have := reachA_grow (m1 := m1) (d := d) (m2 := m2) (x := x) (y := y) (n := y) (k := n - y) h1 h2 h3 h4 (Int.le_refl _) (by omega)
  rw [show y + (n - y) = n by omega, reachA_le (Int.le_refl y)] at this
  omega
theorem layA_k {σ : ST} {s x y : Int} {k : Nat} (h1 : k ≠ 12) (h2 : k ≠ 13) : layA σ s x y k = σ k := by
  unfold layA
  split
  · rfl
  · rw [upr_k h2, upr_k h1]
theorem layA_o {σ : ST} {s x y t : Int} {k : Nat} (h : t ≠ s) : layA σ s x y k t = σ k t := by
  unfold layA
  split
  · rfl
  · rw [upr_i h, upr_i h]
theorem cur_eq {σ τ : ST} {s : Int} (h1 : τ 1 = σ 1) (h2 : τ 2 = σ 2) : cur τ s = cur σ s := by unfold cur; rw [h1, h2]
theorem cur_0 {σ : ST} {c : Int} : cur σ (3 * c) = σ 2 c 0 := by unfold cur; rw [if_pos (by omega)]; congr 1; omega
theorem cur_1 {σ : ST} {c : Int} : cur σ (3 * c + 1) = σ 1 c 0 := by unfold cur; rw [if_neg (by omega)]; congr 1; omega
theorem cur_2 {σ : ST} {c : Int} : cur σ (3 * c + 2) = σ 1 c 0 := by unfold cur; rw [if_neg (by omega)]; congr 1; omega
theorem AInv.mono {π : PL} {K K' : Int} {σ : ST} (h : AInv π K σ) (q : K ≤ K') : AInv π K' σ := by
  obtain ⟨a1, a2, a3, a4, a5, a6, a7, a8, a9, a10⟩ := h
  refine ⟨a1, a2, a3, a4, a5, a6, fun c c0 c1 => ?_, a8, a9, a10⟩
  obtain ⟨b1, b2, b3, b4⟩ := a7 c c0 c1
  exact ⟨b1, b2, by omega, b4⟩
theorem AInv.cur_rng {π : PL} {K : Int} {σ : ST} (h : AInv π K σ) {s : Int} (s0 : 0 ≤ s) (s1 : s < 3 * π 0 0) : 0 ≤ cur σ s ∧ cur σ s ≤ 2764 := by
  obtain ⟨a1, a2, a3, a4, a5, a6, a7, a8, a9, a10⟩ := h
  have b := (a7 (s / 3) (by omega) (by omega)).1
  unfold cur
  split <;> omega
/-- a slot that is laid once more -/
theorem layA_slot {σ : ST} {s x y : Int} (o : slotOK σ s) (hx : 0 ≤ x) (hy : cur σ s = y) (hy0 : 0 ≤ y) (ht : s % 3 ≠ 1 → x ≤ σ 0 0 0) : slotOK (layA σ s x y) s := by
  obtain ⟨o1, o2, o3, o4⟩ := o
  have fc : cur (layA σ s x y) s = y := by rw [cur_eq (layA_k (by decide) (by decide)) (layA_k (by decide) (by decide))]; exact hy
  by_cases hm : 0 < σ 11 s 0
  · obtain ⟨f9, f10, f11, f1, f2, f12, f13⟩ := layA_flds σ (s := s) (x := x) (y := y) hm
    have w := o1.2 hm
    unfold wellC at w
    rw [hy] at o2 o3 o4
    have hF : FOK (ltF σ s x y) y := FOK.reach (by omega) (by omega) (by omega) (by omega) hx
    have hE : FOK (ltE σ s x y) y := FOK.reach (by omega) (by omega) (by omega) (by omega) hx
    unfold slotOK
    rw [f9, f10, f11, f12, f13, fc, layA_k (by decide) (by decide)]
    refine ⟨o1, o2.mx hF, o3.mx hE, fun h3 n hn => ?_⟩
    have := o4 h3 n hn
    have := ht h3
    have e1 := reachA_up (m1 := σ 9 s 0) (d := σ 10 s 0) (m2 := σ 11 s 0) (x := x) (y := y) (n := n) (by omega) (by omega) (by omega) (by omega) hn
    have e2 := reachA_up (m1 := max (σ 9 s 0) (σ 11 s 0)) (d := σ 10 s 0) (m2 := σ 11 s 0) (x := x) (y := y) (n := n) (by omega) (by omega) (by omega) (by omega) hn
    show max (σ 12 s n) (ltF σ s x y n) ≤ _ ∧ max (σ 13 s n) (ltE σ s x y n) ≤ _
    unfold ltF ltE
    omega
  · have e : layA σ s x y = σ := by unfold layA; rw [if_pos (by omega)]
    rw [e]
    exact ⟨o1, o2, o3, o4⟩
theorem layA_at {σ : ST} {s x y : Int} (hy : cur σ s = y) : layA σ s x y 12 s y = σ 12 s y ∨ layA σ s x y 12 s y = max (σ 12 s y) x := by
  by_cases hm : 0 < σ 11 s 0
  · right
    rw [(layA_flds σ (x := x) (y := y) hm).2.2.2.2.2.1]
    show max (σ 12 s y) (ltF σ s x y y) = _
    unfold ltF
    rw [reachA_le (Int.le_refl y)]
  · left
    have e : layA σ s x y = σ := by unfold layA; rw [if_pos (by omega)]
    rw [e]
theorem layA_inv {π : PL} {K : Int} {σ : ST} (h : AInv π K σ) {s x y : Int} (s0 : 0 ≤ s) (s1 : s < 3 * π 0 0) (hx : 0 ≤ x) (hy : cur σ s = y) (h1 : s % 3 = 1 → x ≤ σ 3 (s / 3) 0) (ht : s % 3 ≠ 1 → x ≤ σ 0 0 0) : AInv π K (layA σ s x y) := by
  have hc := h.cur_rng s0 s1
  obtain ⟨a1, a2, a3, a4, a5, a6, a7, a8, a9, a10⟩ := h
  have e : ∀ k, k ≠ 12 → k ≠ 13 → layA σ s x y k = σ k := fun k k1 k2 => layA_k k1 k2
  unfold AInv classOK
  rw [e 0 (by decide) (by decide), e 1 (by decide) (by decide), e 2 (by decide) (by decide), e 3 (by decide) (by decide), e 4 (by decide) (by decide), e 5 (by decide) (by decide), e 6 (by decide) (by decide), e 7 (by decide) (by decide), e 8 (by decide) (by decide), e 11 (by decide) (by decide)]
  refine ⟨a1, a2, a3, a4, a5, a6, fun c c0 c1 => ?_, a8, a9, fun t t0 t1 => ?_⟩
  · obtain ⟨b1, b2, b3, b4, b5, b6, b7, b8, b9⟩ := a7 c c0 c1
    refine ⟨b1, b2, b3, b4, b5, b6, b7, b8, ?_⟩
    by_cases z : 3 * c + 1 = s
    · subst z
      rw [cur_1] at hy
      rw [hy] at b9 ⊢
      have := h1 (by omega)
      rw [show (3 * c + 1) / 3 = c by omega] at this
      rcases layA_at (σ := σ) (s := 3 * c + 1) (x := x) (y := y) (by rw [cur_1]; exact hy) with q | q
      · rw [q]; exact b9
      · rw [q]; omega
    · rw [layA_o z]; exact b9
  · by_cases z : t = s
    · subst z
      exact layA_slot (a10 t t0 t1) hx hy (by omega) ht
    · have := a10 t t0 t1
      unfold slotOK at *
      rw [layA_o z, layA_o z, layA_o z, layA_o z, layA_o z, cur_eq (e 1 (by decide) (by decide)) (e 2 (by decide) (by decide)), e 0 (by decide) (by decide)]
      exact this
theorem virA_k {π : PL} {σ : ST} {c v : Int} {k : Nat} (h1 : k ≠ 3) (h2 : k ≠ 4) : virA π σ c v k = σ k := by
  unfold virA; rw [up_k h2, up_k h1]
theorem virA_3 {π : PL} {σ : ST} {c v : Int} : virA π σ c v 3 c 0 = v := by unfold virA; rw [up_k (by decide), up_eq]
theorem virA_3o {π : PL} {σ : ST} {c v b : Int} (h : b ≠ c) : virA π σ c v 3 b = σ 3 b := by unfold virA; rw [up_k (by decide), up_i h]
theorem virA_4 {π : PL} {σ : ST} {c v : Int} : virA π σ c v 4 (π 1 c) 0 = max (σ 4 (π 1 c) 0) v := by unfold virA; rw [up_eq]
theorem virA_4o {π : PL} {σ : ST} {c v b : Int} (h : b ≠ π 1 c) : virA π σ c v 4 b = σ 4 b := by unfold virA; rw [up_i h, up_k (by decide)]
theorem virA_inv {π : PL} {K : Int} {σ : ST} (h : AInv π K σ) {c v : Int} (h1 : σ 3 c 0 ≤ v) (h2 : 0 ≤ v ∧ v ≤ 6500 * σ 0 2 0) : AInv π K (virA π σ c v) := by
  obtain ⟨a1, a2, a3, a4, a5, a6, a7, a8, a9, a10⟩ := h
  have e : ∀ k, k ≠ 3 → k ≠ 4 → virA π σ c v k = σ k := fun k k1 k2 => virA_k k1 k2
  unfold AInv classOK slotOK
  rw [e 0 (by decide) (by decide), e 1 (by decide) (by decide), e 2 (by decide) (by decide), e 5 (by decide) (by decide), e 6 (by decide) (by decide), e 7 (by decide) (by decide), e 8 (by decide) (by decide), e 9 (by decide) (by decide), e 10 (by decide) (by decide), e 11 (by decide) (by decide), e 12 (by decide) (by decide), e 13 (by decide) (by decide)]
  refine ⟨a1, a2, a3, a4, a5, a6, fun b b0 b1 => ?_, fun b hb => ?_, a9, fun t t0 t1 => ?_⟩
  · obtain ⟨b1, b2, b3⟩ := a7 b b0 b1
    by_cases z : b = c
    · subst z
      rw [virA_3]
      obtain ⟨d1, d2, d3, d4, d5, d6⟩ := b3.2
      exact ⟨b1, h2, b3.1, d1, d2, d3, d4, d5, by omega⟩
    · rw [virA_3o z]; exact ⟨b1, b2, b3⟩
  · have := a8 b hb
    by_cases z : b = π 1 c
    · subst z; rw [virA_4]; omega
    · rw [virA_4o z]; exact this
  · have := a10 t t0 t1
    unfold slotOK at this
    rw [cur_eq (e 1 (by decide) (by decide)) (e 2 (by decide) (by decide))]
    exact this
theorem grtV_rng {π : PL} {K : Int} {σ : ST} (h : AInv π K σ) (i b : Int) : ∀ m : Nat, (m : Int) ≤ π 0 0 → (-1 ≤ grtV π σ i b m ∧ grtV π σ i b m ≤ 6500 * σ 0 2 0) ∧ (grtV π σ i b m = -1 → lstV π σ i b m = 1000000000) ∧ (grtV π σ i b m ≠ -1 → 0 ≤ lstV π σ i b m ∧ lstV π σ i b m ≤ grtV π σ i b m) := by
  obtain ⟨a1, a2, a3, a4, a5, a6, a7, a8, a9, a10⟩ := h
  intro m
  induction m with
  | zero => intro _; refine ⟨⟨Int.le_refl _, ?_⟩, fun _ => rfl, fun q => absurd rfl q⟩; show (-1 : Int) ≤ _; omega
  | succ m ih =>
    intro hm
    obtain ⟨b1, b2, b3⟩ := ih (by omega)
    have c2 := (a7 m (by omega) (by omega)).2.1
    unfold grtV lstV
    by_cases z : π 1 m = i ∧ (m : Int) ≠ b ∧ 0 < hel π σ m
    · rw [if_pos z, if_pos z]
      refine ⟨by omega, fun q => by omega, fun _ => ?_⟩
      by_cases y : grtV π σ i b m = -1
      · have := b2 y; omega
      · have := b3 y; omega
    · rw [if_neg z, if_neg z]; exact ⟨b1, b2, b3⟩
theorem startA_rng {π : PL} {K : Int} {σ : ST} (ht : treeOK π) (h : AInv π K σ) {c : Int} (c0 : 0 ≤ c) (c1 : c < π 0 0) : σ 3 c 0 ≤ startA π σ c ∧ 0 ≤ startA π σ c ∧ startA π σ c ≤ 6500 * σ 0 2 0 := by
  have g := grtV_rng h (π 1 c) c (π 0 0).toNat (by omega)
  obtain ⟨a1, a2, a3, a4, a5, a6, a7, a8, a9, a10⟩ := h
  have b := (a7 c c0 c1).2.1
  have hp : (0 ≤ π 1 c ∧ π 1 c < π 0 0) ∨ π 1 c = 12 := by
    rcases ht.2.2 c c0 c1 with q | q
    · exact Or.inr q
    · exact Or.inl ⟨q.1, by omega⟩
  have p := a8 (π 1 c) (by omega)
  unfold startA
  split <;> omega
theorem wakeA_inv {π : PL} {K : Int} {σ : ST} (ht : treeOK π) (h : AInv π K σ) {c : Int} (c0 : 0 ≤ c) (c1 : c < π 0 0) : AInv π K (wakeA π σ c) := by
  have s := startA_rng ht h c0 c1
  have h1 := virA_inv h (c := c) (v := startA π σ c) s.1 s.2
  have t0 := h.1.1
  have e0 : virA π σ c (startA π σ c) 0 = σ 0 := virA_k (by decide) (by decide)
  have e1 : virA π σ c (startA π σ c) 1 = σ 1 := virA_k (by decide) (by decide)
  have e2 : virA π σ c (startA π σ c) 2 = σ 2 := virA_k (by decide) (by decide)
  have h2 := layA_inv h1 (s := 3 * c + 1) (x := startA π σ c) (y := σ 1 c 0) (by omega) (by omega) s.2.1 (by rw [cur_1, e1]) (fun _ => by rw [show (3 * c + 1) / 3 = c by omega, virA_3]; exact Int.le_refl _) (fun q => by omega)
  have g : ∀ k, k ≠ 12 → k ≠ 13 → layA (virA π σ c (startA π σ c)) (3 * c + 1) (startA π σ c) (σ 1 c 0) k = virA π σ c (startA π σ c) k := fun k k1 k2 => layA_k k1 k2
  have h3 := layA_inv h2 (s := 3 * c + 2) (x := σ 0 0 0) (y := σ 1 c 0) (by omega) (by omega) t0 (by rw [cur_2, g 1 (by decide) (by decide), e1]) (fun q => by omega) (fun _ => by rw [g 0 (by decide) (by decide), e0]; exact Int.le_refl _)
  refine layA_inv h3 (s := 3 * c) (x := σ 0 0 0) (y := σ 2 c 0) (by omega) (by omega) t0 ?_ (fun q => by omega) (fun _ => ?_)
  · rw [cur_0, layA_k (by decide) (by decide), g 2 (by decide) (by decide), e2]
  · rw [layA_k (by decide) (by decide), g 0 (by decide) (by decide), e0]; exact Int.le_refl _
theorem wakeA_k {π : PL} {σ : ST} {c : Int} {k : Nat} (h1 : k ≠ 3) (h2 : k ≠ 4) (h3 : k ≠ 12) (h4 : k ≠ 13) : wakeA π σ c k = σ k := by
  unfold wakeA; rw [layA_k h3 h4, layA_k h3 h4, layA_k h3 h4, virA_k h1 h2]
theorem climbW_inv {π : PL} {K : Int} {σ0 : ST} (ht : treeOK π) : ∀ (f : Nat) {τ : ST} {a : Int}, AInv π K τ → a = 12 ∨ (0 ≤ a ∧ a < π 0 0) → AInv π K (climbW π σ0 f τ a) := by
  intro f
  induction f with
  | zero => intro τ a h _; exact h
  | succ f ih =>
    intro τ a h ha
    unfold climbW
    split
    · exact h
    · have a' : 0 ≤ a ∧ a < π 0 0 := by omega
      have hp : π 1 a = 12 ∨ (0 ≤ π 1 a ∧ π 1 a < π 0 0) := by
        rcases ht.2.2 a a'.1 a'.2 with q | q
        · exact Or.inl q
        · exact Or.inr ⟨q.1, by omega⟩
      split
      · exact ih (wakeA_inv ht h a'.1 a'.2) hp
      · exact ih h hp
theorem climbW_k {π : PL} {σ0 : ST} {k : Nat} (h1 : k ≠ 3) (h2 : k ≠ 4) (h3 : k ≠ 12) (h4 : k ≠ 13) : ∀ (f : Nat) {τ : ST} {a : Int}, climbW π σ0 f τ a k = τ k := by
  intro f
  induction f with
  | zero => intro τ a; rfl
  | succ f ih =>
    intro τ a
    unfold climbW
    split
    · rfl
    · rw [ih]
      split
      · exact wakeA_k h1 h2 h3 h4
      · rfl
theorem pushA_k {σ : ST} {l z : Int} {k : Nat} (h1 : k ≠ 6) (h2 : k ≠ 7) : pushA σ l z k = σ k := by unfold pushA; rw [up_k h1, up_k h2]
theorem pushA_6 {σ : ST} {l z : Int} : pushA σ l z 6 l 0 = σ 6 l 0 + 1 := by unfold pushA; rw [up_eq]
theorem pushA_6o {σ : ST} {l z b : Int} (h : b ≠ l) : pushA σ l z 6 b = σ 6 b := by unfold pushA; rw [up_i h, up_k (by decide)]
theorem pushA_7 {σ : ST} {l z i : Int} : pushA σ l z 7 l i = if i = σ 6 l 0 then z else σ 7 l i := by unfold pushA; rw [up_k (by decide), up_ji]
theorem pushA_7o {σ : ST} {l z b : Int} (h : b ≠ l) : pushA σ l z 7 b = σ 7 b := by unfold pushA; rw [up_k (by decide), up_i h]
theorem pushA_inv {π : PL} {K : Int} {σ : ST} (h : AInv π K σ) {l z : Int} (hk : kids π l = 0) (hq : σ 6 l 0 < 20) (hz : 1 ≤ z ∧ z ≤ 64) : AInv π K (pushA σ l z) := by
  obtain ⟨a1, a2, a3, a4, a5, a6, a7, a8, a9, a10⟩ := h
  have e : ∀ k, k ≠ 6 → k ≠ 7 → pushA σ l z k = σ k := fun k k1 k2 => pushA_k k1 k2
  unfold AInv classOK slotOK
  rw [e 0 (by decide) (by decide), e 1 (by decide) (by decide), e 2 (by decide) (by decide), e 3 (by decide) (by decide), e 4 (by decide) (by decide), e 5 (by decide) (by decide), e 8 (by decide) (by decide), e 9 (by decide) (by decide), e 10 (by decide) (by decide), e 11 (by decide) (by decide), e 12 (by decide) (by decide), e 13 (by decide) (by decide)]
  refine ⟨a1, a2, a3, a4, a5, a6, fun b b0 b1 => ?_, a8, a9, fun t t0 t1 => ?_⟩
  · obtain ⟨b1, b2, b3, b4, b5, b6, b7⟩ := a7 b b0 b1
    by_cases y : b = l
    · subst y
      rw [pushA_6]
      refine ⟨b1, b2, b3, by omega, fun q => absurd hk q, fun i i0 i1 => ?_, b7⟩
      rw [pushA_7]
      split
      · exact hz
      · exact b6 i i0 (by omega)
    · rw [pushA_6o y, pushA_7o y]
      exact ⟨b1, b2, b3, b4, b5, b6, b7⟩
  · have := a10 t t0 t1
    unfold slotOK at this
    rw [cur_eq (e 1 (by decide) (by decide)) (e 2 (by decide) (by decide))]
    exact this
theorem lostA_inv {π : PL} {K : Int} {σ : ST} (h : AInv π K σ) (l : Int) : AInv π (K + 1) (up σ 5 l 0 (σ 5 l 0 + 1)) := by
  obtain ⟨a1, a2, a3, a4, a5, a6, a7, a8, a9, a10⟩ := h
  have e : ∀ k, k ≠ 5 → up σ 5 l 0 (σ 5 l 0 + 1) k = σ k := fun k k1 => up_k k1
  unfold AInv classOK slotOK
  rw [e 0 (by decide), e 1 (by decide), e 2 (by decide), e 3 (by decide), e 4 (by decide), e 6 (by decide), e 7 (by decide), e 8 (by decide), e 9 (by decide), e 10 (by decide), e 11 (by decide), e 12 (by decide), e 13 (by decide)]
  refine ⟨a1, a2, a3, a4, a5, a6, fun b b0 b1 => ?_, a8, a9, fun t t0 t1 => ?_⟩
  · obtain ⟨b1, b2, b3, b4⟩ := a7 b b0 b1
    by_cases y : b = l
    · subst y
      rw [up_eq]
      exact ⟨b1, b2, by omega, b4⟩
    · rw [up_i y]
      exact ⟨b1, b2, by omega, b4⟩
  · have := a10 t t0 t1
    unfold slotOK at this
    rw [cur_eq (e 1 (by decide)) (e 2 (by decide))]
    exact this
theorem acceptA_inv {π : PL} {K : Int} {σ : ST} (ht : treeOK π) (h : AInv π K σ) {l z : Int} (l0 : 0 ≤ l) (l1 : l < π 0 0) (hk : kids π l = 0) (hz : 1 ≤ z ∧ z ≤ 64) : AInv π (K + 1) (acceptA π σ l z) := by
  unfold acceptA
  split
  · exact lostA_inv h l
  · exact (climbW_inv ht 13 (pushA_inv h hk (by omega) hz) (Or.inr ⟨l0, l1⟩)).mono (by omega)
