/-! what the law checks, kept by every act -/
def Pk (π : PL) (σ : ST) : Prop := ∀ k, 0 ≤ k → k < π 0 0 → σ 3 k 0 ≤ σ 4 (π 1 k) 0
theorem Pk_cg {π : PL} {σ τ : ST} (p : Pk π σ) (e3 : τ 3 = σ 3) (e4 : τ 4 = σ 4) : Pk π τ := fun k k0 k1 => by rw [e3, e4]; exact p k k0 k1
theorem virA_pk {π : PL} {σ : ST} {c v : Int} (p : Pk π σ) : Pk π (virA π σ c v) := by
  intro k k0 k1
  have h := p k k0 k1
  have e4 : σ 4 (π 1 k) 0 ≤ virA π σ c v 4 (π 1 k) 0 := by
    by_cases q : π 1 k = π 1 c
    · rw [q, virA_4]; exact Int.le_max_left _ _
    · rw [virA_4o q]; exact Int.le_refl _
  by_cases q : k = c
  · subst q
    rw [virA_3, virA_4]
    exact Int.le_max_right _ _
  · rw [virA_3o q]
    exact Int.le_trans h e4
theorem wakeA_34 {π : PL} {σ : ST} {c : Int} {k : Nat} (hk : k = 3 ∨ k = 4) : wakeA π σ c k = virA π σ c (startA π σ c) k := by
  unfold wakeA
  rw [layA_k (by omega) (by omega), layA_k (by omega) (by omega), layA_k (by omega) (by omega)]
theorem climbW_pk {π : PL} {σ0 : ST} : ∀ (f : Nat) {τ : ST} {a : Int}, Pk π τ → Pk π (climbW π σ0 f τ a) := by
  intro f
  induction f with
  | zero => intro τ a p; exact p
  | succ f ih =>
    intro τ a p
    unfold climbW
    split
    · exact p
    · apply ih
      split
      · exact Pk_cg (virA_pk p) (wakeA_34 (Or.inl rfl)) (wakeA_34 (Or.inr rfl))
      · exact p
theorem climbS_pk {π : PL} {z : Int} : ∀ (f : Nat) {τ : ST} {a : Int}, Pk π τ → Pk π (climbS π z f τ a) := by
  intro f
  induction f with
  | zero => intro τ a p; exact p
  | succ f ih =>
    intro τ a p
    unfold climbS
    split
    · exact p
    · apply ih
      unfold stepS
      exact virA_pk (Pk_cg p (up_k (by decide)) (up_k (by decide)))
/-- who is woken starts where its share curve is -/
theorem wakeA_at {π : PL} {σ : ST} {c : Int} (h11 : 0 < σ 11 (3 * c + 1) 0) : wakeA π σ c 3 c 0 = startA π σ c ∧ startA π σ c ≤ wakeA π σ c 12 (3 * c + 1) (σ 1 c 0) := by
  constructor
  · rw [wakeA_34 (Or.inl rfl), virA_3]
  · unfold wakeA
    rw [layA_o (by omega), layA_o (by omega)]
    have e11 : virA π σ c (startA π σ c) 11 (3 * c + 1) 0 = σ 11 (3 * c + 1) 0 := by rw [virA_k (by decide) (by decide)]
    rw [(layA_flds (virA π σ c (startA π σ c)) (s := 3 * c + 1) (x := startA π σ c) (y := σ 1 c 0) (by rw [e11]; exact h11)).2.2.2.2.2.1]
    show startA π σ c ≤ max _ (ltF (virA π σ c (startA π σ c)) (3 * c + 1) (startA π σ c) (σ 1 c 0) (σ 1 c 0))
    unfold ltF
    rw [reachA_le (Int.le_refl _)]
    exact Int.le_max_right _ _
theorem wakeA_o {π : PL} {σ : ST} {c b : Int} (h : b ≠ c) : wakeA π σ c 3 b = σ 3 b ∧ wakeA π σ c 12 (3 * b + 1) = σ 12 (3 * b + 1) := by
  constructor
  · rw [wakeA_34 (Or.inl rfl), virA_3o h]
  · unfold wakeA
    rw [layA_o (by omega), layA_o (by omega), layA_o (by omega), virA_k (by decide) (by decide)]
theorem startA_ge {π : PL} {σ : ST} {c : Int} : σ 3 c 0 ≤ startA π σ c := Int.le_max_left _ _
theorem climbW_at {π : PL} {K : Int} {σ0 : ST} (ht : treeOK π) : ∀ (f : Nat) {τ : ST} {a : Int}, AInv π K τ → (a = 12 ∨ (0 ≤ a ∧ a < π 0 0 ∧ a < f)) → ∀ b, 0 ≤ b → b < π 0 0 →
    τ 3 b 0 ≤ climbW π σ0 f τ a 3 b 0 ∧ ((inCh π a b ∧ hel π σ0 b = 0) → climbW π σ0 f τ a 3 b 0 ≤ climbW π σ0 f τ a 12 (3 * b + 1) (τ 1 b 0)) ∧ (¬ (inCh π a b ∧ hel π σ0 b = 0) → climbW π σ0 f τ a 3 b = τ 3 b ∧ climbW π σ0 f τ a 12 (3 * b + 1) = τ 12 (3 * b + 1)) := by
  have n12 := ht.2.1
  intro f
  induction f with
  | zero =>
    intro τ a inv ha b b0 b1
    have e : a = 12 := by omega
    subst e
    exact ⟨Int.le_refl _, fun ⟨q, _⟩ => by rw [inCh_12] at q; omega, fun _ => ⟨rfl, rfl⟩⟩
  | succ f ih =>
    intro τ a inv ha b b0 b1
    by_cases e : a = 12
    · subst e
      have e2 : climbW π σ0 (f + 1) τ 12 = τ := by unfold climbW; rw [if_pos rfl]
      rw [e2]
      exact ⟨Int.le_refl _, fun ⟨q, _⟩ => by rw [inCh_12] at q; omega, fun _ => ⟨rfl, rfl⟩⟩
    · obtain ⟨a0, a1, af⟩ := ha.resolve_left e
      have e2 : climbW π σ0 (f + 1) τ a = climbW π σ0 f (if hel π σ0 a = 0 then wakeA π τ a else τ) (π 1 a) := by
        show (if a = 12 then τ else climbW π σ0 f (if hel π σ0 a = 0 then wakeA π τ a else τ) (π 1 a)) = _
        rw [if_neg e]
      have pa : π 1 a = 12 ∨ (0 ≤ π 1 a ∧ π 1 a < π 0 0 ∧ π 1 a < f) := by
        rcases ht.2.2 a a0 a1 with q | q
        · exact Or.inl q
        · exact Or.inr ⟨q.1, by omega, by omega⟩
      have h11 := (inv.2.2.2.2.2.2.1 a a0 a1).2.2.2.2.2.2.1
      have iv' : AInv π K (if hel π σ0 a = 0 then wakeA π τ a else τ) := by
        split
        · exact wakeA_inv ht inv a0 a1
        · exact inv
      have o1 : (if hel π σ0 a = 0 then wakeA π τ a else τ) 1 = τ 1 := by
        split
        · exact wakeA_k (by decide) (by decide) (by decide) (by decide)
        · rfl
      obtain ⟨g1, g2, g3⟩ := ih iv' pa b b0 b1
      rw [e2]
      by_cases ab : b = a
      · subst ab
        obtain ⟨g3a, g3b⟩ := g3 (fun q => inCh_not_up ht a0 a1 q.1)
        refine ⟨?_, fun q => ?_, fun q => ?_⟩
        · refine Int.le_trans ?_ g1
          split
          · rw [(wakeA_at h11).1]; exact startA_ge
          · exact Int.le_refl _
        · rw [g3a, g3b, if_pos q.2, (wakeA_at h11).1]
          exact (wakeA_at h11).2
        · have hn : ¬ hel π σ0 b = 0 := fun w => q ⟨inCh_rf _ _, w⟩
          rw [g3a, g3b, if_neg hn]
          exact ⟨rfl, rfl⟩
      · have o : (if hel π σ0 a = 0 then wakeA π τ a else τ) 3 b = τ 3 b ∧ (if hel π σ0 a = 0 then wakeA π τ a else τ) 12 (3 * b + 1) = τ 12 (3 * b + 1) := by
          split
          · exact wakeA_o ab
          · exact ⟨rfl, rfl⟩
        have ic : inCh π a b ↔ inCh π (π 1 a) b := by
          rw [inCh_iff e]
          exact ⟨fun q => q.resolve_left (fun w => ab w.symm), Or.inr⟩
        rw [o1] at g2
        rw [o.1] at g1 g3
        rw [o.2] at g3
        rw [ic]
        exact ⟨g1, g2, g3⟩
noncomputable def inS (π : PL) (σ : ST) (c : Int) : Int := sumN (fun k => if π 1 (k : Int) = c then σ 1 (k : Int) 0 else 0) (π 0 0).toNat
theorem inS_12 {π : PL} {σ : ST} : inS π σ 12 = sentA π σ := rfl
/-- one of those right in c is in the chain, if c is above -/
theorem inCh_kid {π : PL} (ht : treeOK π) : ∀ (j : Nat) {a c : Int}, 0 ≤ a → a < π 0 0 → upc π j a = c → a ≠ c → ∃ d, 0 ≤ d ∧ d < π 0 0 ∧ π 1 d = c ∧ inCh π a d := by
  have n12 := ht.2.1
  intro j
  induction j with
  | zero => intro a c a0 a1 h n; exact absurd h n
  | succ j ih =>
    intro a c a0 a1 h n
    rw [upc_s π j (by omega)] at h
    by_cases e : π 1 a = c
    · exact ⟨a, a0, a1, e, inCh_rf _ _⟩
    · rcases par_ok ht a0 a1 with p | p
      · rw [p, upc_12] at h
        exact absurd (p.trans h) e
      · obtain ⟨d, d0, d1, d2, d3⟩ := ih p.1 p.2 h e
        exact ⟨d, d0, d1, d2, (inCh_iff (by omega)).mpr (Or.inr d3)⟩
theorem inCh_par {π : PL} {a d c : Int} (hd : d ≠ 12) (h : inCh π a d) (e : π 1 d = c) : inCh π a c := by
  obtain ⟨j, h⟩ := h
  exact inCh_tr j h ((inCh_iff hd).mpr (Or.inr (by rw [e]; exact inCh_rf _ _)))
/-- what a sending does to the sums -/
theorem inS_send {π : PL} {σ τ : ST} {l z c : Int} (ht : treeOK π) (l0 : 0 ≤ l) (l1 : l < π 0 0) (hlc : l ≠ c) (h1 : ∀ b, 0 ≤ b → b < π 0 0 → (inCh π l b → τ 1 b 0 = σ 1 b 0 + z) ∧ (¬ inCh π l b → τ 1 b 0 = σ 1 b 0)) : (inCh π l c → inS π τ c = inS π σ c + z) ∧ (¬ inCh π l c → inS π τ c = inS π σ c) := by
  have n12 := ht.2.1
  constructor
  · intro q
    obtain ⟨j, hj⟩ := q
    obtain ⟨d, d0, d1, d2, d3⟩ := inCh_kid ht j l0 l1 hj hlc
    have ed : ((d.toNat : Nat) : Int) = d := by omega
    have := sumN_one (f := fun k => if π 1 (k : Int) = c then σ 1 (k : Int) 0 else 0) (g := fun k => if π 1 (k : Int) = c then τ 1 (k : Int) 0 else 0) (l := d.toNat) (δ := z) (m := (π 0 0).toNat) (fun k hk hkd => by
      show (if π 1 (k : Int) = c then τ 1 (k : Int) 0 else 0) = (if π 1 (k : Int) = c then σ 1 (k : Int) 0 else 0)
      by_cases w : π 1 (k : Int) = c
      · rw [if_pos w, if_pos w]
        exact (h1 k (by omega) (by omega)).2 (inCh_mate ht l0 l1 d0 d1 (by omega) (by omega) (w.trans d2.symm) (by omega) d3)
      · rw [if_neg w, if_neg w]) (by
      show (if π 1 (d.toNat : Int) = c then τ 1 (d.toNat : Int) 0 else 0) = (if π 1 (d.toNat : Int) = c then σ 1 (d.toNat : Int) 0 else 0) + z
      rw [ed, if_pos d2, if_pos d2]
      exact (h1 d d0 d1).1 d3)
    rw [if_pos (by omega)] at this
    exact this
  · intro q
    refine sumN_congr (fun k hk => ?_)
    show (if π 1 (k : Int) = c then τ 1 (k : Int) 0 else 0) = (if π 1 (k : Int) = c then σ 1 (k : Int) 0 else 0)
    by_cases w : π 1 (k : Int) = c
    · rw [if_pos w, if_pos w]
      exact (h1 k (by omega) (by omega)).2 (fun u => q (inCh_par (by omega) u w))
    · rw [if_neg w, if_neg w]
theorem inS_cg {π : PL} {σ τ : ST} {c : Int} (e : τ 1 = σ 1) : inS π τ c = inS π σ c := by unfold inS; rw [e]
/-- what every act keeps -/
def RI (π : PL) (σ : ST) : Prop :=
  Pk π σ ∧ (∀ c, 0 ≤ c → c < π 0 0 → kids π c ≠ 0 → σ 1 c 0 = inS π σ c ∧ σ 2 c 0 = 0) ∧ (sentA π σ ≤ σ 0 0 0 + σ 0 1 0 ∧ σ 0 1 0 ≤ 63) ∧ ∀ c, 0 ≤ c → c < π 0 0 → 0 < hel π σ c → σ 3 c 0 ≤ σ 12 (3 * c + 1) (σ 1 c 0)
theorem RI_cg {π : PL} {σ τ : ST} (r : RI π σ) (e : ∀ k, k = 0 ∨ k = 1 ∨ k = 2 ∨ k = 3 ∨ k = 4 ∨ k = 6 ∨ k = 12 → τ k = σ k) : RI π τ := by
  obtain ⟨r1, r2, r3, r4⟩ := r
  have e1 := e 1 (by omega)
  refine ⟨Pk_cg r1 (e 3 (by omega)) (e 4 (by omega)), fun c c0 c1 c2 => ?_, ?_, fun c c0 c1 c2 => ?_⟩
  · rw [inS_cg e1, e1, e 2 (by omega)]; exact r2 c c0 c1 c2
  · rw [← inS_12, inS_cg e1, e 0 (by omega)]; exact r3
  · rw [e 3 (by omega), e 12 (by omega), e1]
    rw [hel_same (e 6 (by omega))] at c2
    exact r4 c c0 c1 c2
/-- all that came in: held, chosen, lost -/
noncomputable def T7 (π : PL) (σ : ST) : Int := hel π σ 12 + σ 0 2 0 + lostA π σ
/-- one state after another -/
def Go (π : PL) (σ τ : ST) : Prop := RI π τ ∧ (∀ k, 0 ≤ k → k < π 0 0 → σ 3 k 0 ≤ τ 3 k 0) ∧ ∀ k, 9 ≤ k → k ≤ 11 → τ k = σ k
theorem Go.rf {π : PL} {σ : ST} (r : RI π σ) : Go π σ σ := ⟨r, fun _ _ _ => Int.le_refl _, fun _ _ _ => rfl⟩
theorem Go.tr {π : PL} {σ τ ρ : ST} (a : Go π σ τ) (b : Go π τ ρ) : Go π σ ρ := ⟨b.1, fun k k0 k1 => Int.le_trans (a.2.1 k k0 k1) (b.2.1 k k0 k1), fun k k0 k1 => by rw [b.2.2 k k0 k1, a.2.2 k k0 k1]⟩
theorem lostA_cg {π : PL} {σ τ : ST} (e : τ 5 = σ 5) : lostA π τ = lostA π σ := by unfold lostA; rw [e]
theorem accept_go {π : PL} {K : Int} {σ : ST} (ht : treeOK π) (inv : AInv π K σ) (r : RI π σ) {l z : Int} (l0 : 0 ≤ l) (l1 : l < π 0 0) (hk : kids π l = 0) (hz : 1 ≤ z ∧ z ≤ 64) :
    Go π σ (acceptA π σ l z) ∧ T7 π (acceptA π σ l z) = T7 π σ + 1 ∧ acceptA π σ l z 6 l 0 = (if 20 ≤ σ 6 l 0 then 20 else σ 6 l 0 + 1) ∧ acceptA π σ l z 5 l 0 = (if 20 ≤ σ 6 l 0 then σ 5 l 0 + 1 else σ 5 l 0) := by
  have n12 := ht.2.1
  have q20 := (inv.2.2.2.2.2.2.1 l l0 l1).2.2.2.1
  have el : ((l.toNat : Nat) : Int) = l := by omega
  by_cases c : 20 ≤ σ 6 l 0
  · have e : acceptA π σ l z = up σ 5 l 0 (σ 5 l 0 + 1) := by unfold acceptA; rw [if_pos c]
    rw [e, if_pos c, if_pos c]
    refine ⟨⟨RI_cg r (fun k hk => up_k (by omega)), fun k _ _ => by rw [up_k (by decide)]; exact Int.le_refl _, fun k _ _ => up_k (by omega)⟩, ?_, by rw [up_k (by decide)]; omega, by rw [up_eq]⟩
    unfold T7
    rw [hel_same (up_k (by decide)), up_k (by decide)]
    have s := sumN_one (f := fun c => σ 5 (c : Int) 0) (g := fun c => up σ 5 l 0 (σ 5 l 0 + 1) 5 (c : Int) 0) (l := l.toNat) (δ := 1) (m := (π 0 0).toNat) (fun k hk hkl => by
      show up σ 5 l 0 (σ 5 l 0 + 1) 5 (k : Int) 0 = σ 5 (k : Int) 0
      rw [up_i (by omega)]) (by
      show up σ 5 l 0 (σ 5 l 0 + 1) 5 (l.toNat : Int) 0 = σ 5 (l.toNat : Int) 0 + 1
      rw [el, up_eq])
    rw [if_pos (by omega)] at s
    have s' : lostA π (up σ 5 l 0 (σ 5 l 0 + 1)) = lostA π σ + 1 := s
    rw [s']
    omega
  · have e : acceptA π σ l z = climbW π σ 13 (pushA σ l z) l := by unfold acceptA; rw [if_neg c]
    rw [e, if_neg c, if_neg c]
    have pi := pushA_inv inv hk (l := l) (z := z) (by omega) hz
    have at_ := climbW_at (σ0 := σ) ht 13 (τ := pushA σ l z) (a := l) pi (Or.inr ⟨l0, l1, by omega⟩)
    have ck : ∀ k, k ≠ 3 → k ≠ 4 → k ≠ 12 → k ≠ 13 → climbW π σ 13 (pushA σ l z) l k = pushA σ l z k := fun k a b c d => climbW_k a b c d 13
    have pk : ∀ k, k ≠ 6 → k ≠ 7 → pushA σ l z k = σ k := fun k a b => pushA_k a b
    obtain ⟨r1, r2, r3, r4⟩ := r
    have e1 : climbW π σ 13 (pushA σ l z) l 1 = σ 1 := by rw [ck 1 (by decide) (by decide) (by decide) (by decide), pk 1 (by decide) (by decide)]
    have e0 : climbW π σ 13 (pushA σ l z) l 0 = σ 0 := by rw [ck 0 (by decide) (by decide) (by decide) (by decide), pk 0 (by decide) (by decide)]
    have e2 : climbW π σ 13 (pushA σ l z) l 2 = σ 2 := by rw [ck 2 (by decide) (by decide) (by decide) (by decide), pk 2 (by decide) (by decide)]
    have e6 : climbW π σ 13 (pushA σ l z) l 6 = pushA σ l z 6 := ck 6 (by decide) (by decide) (by decide) (by decide)
    have h1 : ∀ b, (inCh π l b → hel π (climbW π σ 13 (pushA σ l z) l) b = hel π σ b + 1) ∧ (¬ inCh π l b → hel π (climbW π σ 13 (pushA σ l z) l) b = hel π σ b) := fun b => hel_one l0 l1 (fun k _ _ hkl => by rw [e6, pushA_6o hkl]) (by rw [e6, pushA_6])
    refine ⟨⟨⟨climbW_pk 13 (Pk_cg r1 (pk 3 (by decide) (by decide)) (pk 4 (by decide) (by decide))), fun c c0 c1 c2 => ?_, ?_, fun c c0 c1 c2 => ?_⟩, fun k k0 k1 => ?_, fun k k0 k1 => ?_⟩, ?_, by rw [e6, pushA_6], by rw [ck 5 (by decide) (by decide) (by decide) (by decide), pk 5 (by decide) (by decide)]⟩
    · rw [inS_cg e1, e1, e2]; exact r2 c c0 c1 c2
    · rw [← inS_12, inS_cg e1, e0]; exact r3
    · obtain ⟨-, g2, g3⟩ := at_ c c0 c1
      rw [e1]
      rw [pk 1 (by decide) (by decide)] at g2
      by_cases w : inCh π l c ∧ hel π σ c = 0
      · exact g2 w
      · rw [(g3 w).1, (g3 w).2, pk 3 (by decide) (by decide), pk 12 (by decide) (by decide)]
        refine r4 c c0 c1 ?_
        have nn := inv.hel_rng ht c
        by_cases v : inCh π l c
        · have : ¬ hel π σ c = 0 := fun u => w ⟨v, u⟩
          omega
        · rw [(h1 c).2 v] at c2; exact c2
    · have := (at_ k k0 k1).1
      rw [pk 3 (by decide) (by decide)] at this
      exact this
    · rw [ck k (by omega) (by omega) (by omega) (by omega), pk k (by omega) (by omega)]
    · unfold T7
      rw [(h1 12).1 (inCh_all ht l0 l1), e0, lostA_cg (σ := σ) (by rw [ck 5 (by decide) (by decide) (by decide) (by decide), pk 5 (by decide) (by decide)])]
      omega
theorem tick_go {π : PL} {σ : ST} (r : RI π σ) (b0 : 0 ≤ σ 0 1 0) : Go π σ (tickA σ) ∧ T7 π (tickA σ) = T7 π σ := by
  obtain ⟨r1, r2, r3, r4⟩ := r
  have e : ∀ k, k ≠ 0 → tickA σ k = σ k := fun k k0 => tickA_k k0
  refine ⟨⟨⟨Pk_cg r1 (e 3 (by decide)) (e 4 (by decide)), fun c c0 c1 c2 => ?_, ?_, fun c c0 c1 c2 => ?_⟩, fun k _ _ => by rw [e 3 (by decide)]; exact Int.le_refl _, fun k k0 k1 => e k (by omega)⟩, ?_⟩
  · rw [inS_cg (e 1 (by decide)), e 1 (by decide), e 2 (by decide)]; exact r2 c c0 c1 c2
  · rw [← inS_12, inS_cg (e 1 (by decide)), inS_12, tickA_t, tickA_b]
    split <;> omega
  · rw [e 3 (by decide), e 12 (by decide), e 1 (by decide)]
    rw [hel_same (e 6 (by decide))] at c2
    exact r4 c c0 c1 c2
  · unfold T7
    rw [hel_same (e 6 (by decide)), tickA_0 (by decide) (by decide), lostA_cg (e 5 (by decide))]
theorem send_go {π : PL} {K : Int} {σ : ST} (ht : treeOK π) (inv : AInv π K σ) (r : RI π σ) (hb : σ 0 1 0 = 0) {l g : Int} (l0 : 0 ≤ l) (l1 : l < π 0 0) (hk : kids π l = 0) (hq : 0 < σ 6 l 0) : Go π σ (tickA (sendA π σ l g)) ∧ T7 π (tickA (sendA π σ l g)) = T7 π σ := by
  have n12 := ht.2.1
  obtain ⟨⟨s00, s01, s02, s03, s04, s05⟩, sk, ⟨s6, s7⟩, ⟨s2, s2o⟩, s13, s4⟩ := sendA_all (σ := σ) (g := g) ht l0 l1
  have hz := (inv.2.2.2.2.2.2.1 l l0 l1).2.2.2.2.2.1 0 (Int.le_refl _) hq
  obtain ⟨r1, r2, r3, r4⟩ := r
  have e : ∀ k, k ≠ 0 → tickA (sendA π σ l g) k = sendA π σ l g k := fun k k0 => tickA_k k0
  have t1 : ∀ b, 0 ≤ b → b < π 0 0 → (inCh π l b → tickA (sendA π σ l g) 1 b 0 = σ 1 b 0 + σ 7 l 0) ∧ (¬ inCh π l b → tickA (sendA π σ l g) 1 b 0 = σ 1 b 0) := fun b b0 b1 => by
    rw [e 1 (by decide)]
    exact ⟨fun q => ((s13 b b0 b1).1 q).1, fun q => by rw [((s13 b b0 b1).2 q).1]⟩
  have t6 : ∀ k, 0 ≤ k → k < π 0 0 → k ≠ l → tickA (sendA π σ l g) 6 k 0 = σ 6 k 0 := fun k _ _ q => by rw [e 6 (by decide), s6, popA_6o q]
  have t6l : tickA (sendA π σ l g) 6 l 0 = σ 6 l 0 + (-1) := by rw [e 6 (by decide), s6, popA_6]; omega
  have hh : ∀ b, (inCh π l b → hel π (tickA (sendA π σ l g)) b = hel π σ b + (-1)) ∧ (¬ inCh π l b → hel π (tickA (sendA π σ l g)) b = hel π σ b) := fun b => hel_one l0 l1 t6 t6l
  have hp : ∀ b, inCh π l b → 0 < hel π σ b := fun b q => (hel_pos (fun k k0 k1 => (inv.2.2.2.2.2.2.1 k k0 k1).2.2.2.1.1)).mpr ⟨l, l0, l1, q, hq⟩
  have pk : Pk π (sendA π σ l g) := by
    unfold sendA
    refine Pk_cg (climbS_pk (z := σ 7 l 0) 13 (τ := up (up (popA σ l) 2 l 0 (σ 2 l 0 + g * σ 7 l 0)) 0 3 0 (σ 0 3 0 + g)) (a := l) (Pk_cg r1 ?_ ?_)) ?_ ?_
    · rw [up_k (by decide), up_k (by decide), popA_k (by decide) (by decide)]
    · rw [up_k (by decide), up_k (by decide), popA_k (by decide) (by decide)]
    · rw [up_k (by decide), up_k (by decide), up_k (by decide)]
    · rw [up_k (by decide), up_k (by decide), up_k (by decide)]
  refine ⟨⟨⟨Pk_cg pk (e 3 (by decide)) (e 4 (by decide)), fun c c0 c1 c2 => ?_, ?_, fun c c0 c1 c2 => ?_⟩, fun k k0 k1 => ?_, fun k k0 k1 => by rw [e k (by omega), sk k (by omega)]⟩, ?_⟩
  · have lc : l ≠ c := fun q => c2 (by rw [← q]; exact hk)
    obtain ⟨i1, i2⟩ := inS_send ht l0 l1 lc t1
    obtain ⟨u1, u2⟩ := t1 c c0 c1
    obtain ⟨v1, v2⟩ := r2 c c0 c1 c2
    refine ⟨?_, by rw [e 2 (by decide), s2o c (Ne.symm lc)]; exact v2⟩
    by_cases q : inCh π l c
    · rw [i1 q, u1 q, v1]
    · rw [i2 q, u2 q, v1]
  · have i1 := (inS_send (c := 12) ht l0 l1 (by omega) t1).1 (inCh_all ht l0 l1)
    rw [inS_12, inS_12] at i1
    rw [i1, tickA_t, tickA_b, s00, s01, if_pos (by omega)]
    omega
  · rw [e 12 (by decide), sk 12 (by omega)]
    obtain ⟨u1, u2⟩ := t1 c c0 c1
    by_cases q : inCh π l c
    · rw [u1 q, e 3 (by decide), ((s13 c c0 c1).1 q).2]
      exact Int.le_refl _
    · rw [u2 q, e 3 (by decide), ((s13 c c0 c1).2 q).2]
      rw [(hh c).2 q] at c2
      exact r4 c c0 c1 c2
  · rw [e 3 (by decide)]
    by_cases q : inCh π l k
    · rw [((s13 k k0 k1).1 q).2]
      have a := r4 k k0 k1 (hp k q)
      have o := (inv.2.2.2.2.2.2.2.2.2 (3 * k + 1) (by omega) (by omega)).2.1
      rw [cur_1] at o
      exact Int.le_trans a ((o (σ 1 k 0) (Int.le_refl _)).2 (σ 7 l 0) (by omega)).1
    · rw [((s13 k k0 k1).2 q).2]
      exact Int.le_refl _
  · unfold T7
    rw [(hh 12).1 (inCh_all ht l0 l1), tickA_0 (by decide) (by decide), s02, lostA_cg (σ := σ) (by rw [e 5 (by decide), sk 5 (by omega)])]
    omega
theorem tells0 {π : PL} {σ : ST} (h : π 0 1 = 0) : tellsA π (π 0 1).toNat σ = σ := by rw [h]; rfl
theorem bg_leaf {π : PL} {K : Int} {σ : ST} (inv : AInv π K σ) (q : bgA σ (π 0 0).toNat ≠ -1) : (0 ≤ bgA σ (π 0 0).toNat ∧ bgA σ (π 0 0).toNat < π 0 0) ∧ kids π (bgA σ (π 0 0).toNat) = 0 ∧ 0 < σ 6 (bgA σ (π 0 0).toNat) 0 := by
  have r := (bgA_rng σ (π 0 0).toNat).resolve_left q
  have b : 0 ≤ bgA σ (π 0 0).toNat ∧ bgA σ (π 0 0).toNat < π 0 0 := by omega
  exact ⟨b, (inv.2.2.2.2.2.2.1 _ b.1 b.2).2.2.2.2.2.2.2.1 r.2.2.2.1, r.2.2.1⟩
theorem bs_leaf {π : PL} {σ : ST} (ht : treeOK π) (q : byShareA π σ ≠ -1) : (0 ≤ byShareA π σ ∧ byShareA π σ < π 0 0) ∧ kids π (byShareA π σ) = 0 ∧ 0 < σ 6 (byShareA π σ) 0 := by
  have r := (byShareA_rng (σ := σ) ht).resolve_left q
  exact ⟨⟨r.1, r.2.1⟩, r.2.2.2, by rw [← hel_leaf (σ := σ) ht r.1 r.2.1 r.2.2.2]; exact r.2.2.1⟩
theorem unit_go {π : PL} {K : Int} {σ : ST} (hp : PlanOK π) (h0 : π 0 1 = 0) (inv : AInv π K σ) (r : RI π σ) : Go π σ (unitA π σ) ∧ T7 π (unitA π σ) = T7 π σ := by
  have b0 := inv.2.1.1
  unfold unitA
  rw [tells0 h0]
  unfold midA
  split
  · rename_i hb
    unfold chooseA
    split
    · rename_i q
      obtain ⟨b, bk, b6⟩ := bg_leaf inv q
      exact send_go hp.1 inv r hb b.1 b.2 bk b6
    · split
      · exact tick_go r b0
      · rename_i q
        obtain ⟨b, bk, b6⟩ := bs_leaf (σ := σ) hp.1 q
        exact send_go hp.1 inv r hb b.1 b.2 bk b6
  · exact tick_go r b0
theorem goA_go {π : PL} {K : Int} (hp : PlanOK π) (h0 : π 0 1 = 0) : ∀ (n : Nat) {σ : ST}, AInv π K σ → RI π σ → σ 0 0 0 + n ≤ 2700 → Go π σ (goA π n σ) ∧ T7 π (goA π n σ) = T7 π σ := by
  intro n
  induction n with
  | zero => intro σ _ r _; exact ⟨Go.rf r, rfl⟩
  | succ n ih =>
    intro σ inv r hT
    obtain ⟨g1, g2⟩ := unit_go hp h0 inv r
    have t := (unitA_time hp inv).1
    obtain ⟨g3, g4⟩ := ih (unitA_inv hp inv (by omega)) g1.1 (by omega)
    show Go π σ (goA π n (unitA π σ)) ∧ T7 π (goA π n (unitA π σ)) = T7 π σ
    exact ⟨g1.tr g3, by rw [g4, g2]⟩
