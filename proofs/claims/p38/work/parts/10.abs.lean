abbrev ST : Type := Nat → Int → Int → Int
abbrev PL : Type := Nat → Int → Int
def upc (π : PL) : Nat → Int → Int
  | 0, a => a
  | j + 1, a => if a = 12 then 12 else upc π j (π 1 a)
def inCh (π : PL) (a b : Int) : Prop := ∃ j, upc π j a = b
def sumN (f : Nat → Int) : Nat → Int
  | 0 => 0
  | m + 1 => sumN f m + f m
noncomputable def helT (π : PL) (σ : ST) (b : Int) (k : Nat) : Int := @ite Int (inCh π k b) (Classical.propDecidable _) (σ 6 k 0) 0
noncomputable def hel (π : PL) (σ : ST) (b : Int) : Int := sumN (helT π σ b) (π 0 0).toNat
noncomputable def grtV (π : PL) (σ : ST) (i b : Int) : Nat → Int
  | 0 => -1
  | m + 1 => if π 1 m = i ∧ (m : Int) ≠ b ∧ 0 < hel π σ m then max (grtV π σ i b m) (σ 3 m 0) else grtV π σ i b m
noncomputable def lstV (π : PL) (σ : ST) (i b : Int) : Nat → Int
  | 0 => 1000000000
  | m + 1 => if π 1 m = i ∧ (m : Int) ≠ b ∧ 0 < hel π σ m then min (lstV π σ i b m) (σ 3 m 0) else lstV π σ i b m
noncomputable def startA (π : PL) (σ : ST) (c : Int) : Int :=
  max (σ 3 c 0) (if grtV π σ (π 1 c) c (π 0 0).toNat = -1 then σ 4 (π 1 c) 0 else (lstV π σ (π 1 c) c (π 0 0).toNat + grtV π σ (π 1 c) c (π 0 0).toNat) / 2)
def layA (σ : ST) (s x y : Int) : ST := if σ 11 s 0 ≤ 0 then σ else
  upr (upr σ 12 s (fun n => max (σ 12 s n) (reachA (σ 9 s 0) (σ 10 s 0) (σ 11 s 0) x y n))) 13 s (fun n => max (σ 13 s n) (reachA (max (σ 9 s 0) (σ 11 s 0)) (σ 10 s 0) (σ 11 s 0) x y n))
def putA (σ : ST) (s a b c : Int) : ST := upr (upr (up (up (up σ 9 s 0 a) 10 s 0 b) 11 s 0 c) 12 s (fun _ => 0)) 13 s (fun _ => 0)
def dropA (σ : ST) (s : Int) : ST := upr (upr (up σ 11 s 0 0) 12 s (fun _ => 0)) 13 s (fun _ => 0)
def virA (π : PL) (σ : ST) (c v : Int) : ST := up (up σ 3 c 0 v) 4 (π 1 c) 0 (max (σ 4 (π 1 c) 0) v)
noncomputable def wakeA (π : PL) (σ : ST) (c : Int) : ST :=
  layA (layA (layA (virA π σ c (startA π σ c)) (3 * c + 1) (startA π σ c) (σ 1 c 0)) (3 * c + 2) (σ 0 0 0) (σ 1 c 0)) (3 * c) (σ 0 0 0) (σ 2 c 0)
noncomputable def climbW (π : PL) (σ0 : ST) : Nat → ST → Int → ST
  | 0, τ, _ => τ
  | f + 1, τ, a => if a = 12 then τ else climbW π σ0 f (if hel π σ0 a = 0 then wakeA π τ a else τ) (π 1 a)
def pushA (σ : ST) (l z : Int) : ST := up (up σ 7 l (σ 6 l 0) z) 6 l 0 (σ 6 l 0 + 1)
noncomputable def acceptA (π : PL) (σ : ST) (l z : Int) : ST := if 20 ≤ σ 6 l 0 then up σ 5 l 0 (σ 5 l 0 + 1) else climbW π σ 13 (pushA σ l z) l
noncomputable def lstK (π : PL) (σ : ST) (g : Int → Int) (c : Int) : Nat → Int
  | 0 => -1
  | m + 1 => if π 1 m = c ∧ 0 < hel π σ m then (if lstK π σ g c m = -1 then g m else min (lstK π σ g c m) (g m)) else lstK π σ g c m
def ownF (σ : ST) (c : Int) : Int := if 0 < σ 11 (3 * c + 2) 0 then σ 12 (3 * c + 2) (σ 1 c 0) else 0
noncomputable def fitF (π : PL) (σ : ST) : Nat → Int → Int
  | 0, _ => 0
  | f + 1, c => max (ownF σ c) (lstK π σ (fitF π σ f) c (π 0 0).toNat)
noncomputable def fitA (π : PL) (σ : ST) (c : Int) : Int := fitF π σ 13 c
def eligA (σ : ST) (c : Int) : Int := σ 13 (3 * c) (σ 2 c 0)
def ddlA (σ : ST) (c : Int) : Int := σ 12 (3 * c) (σ 2 c 0 + σ 7 c 0)
def bgA (σ : ST) : Nat → Int
  | 0 => -1
  | m + 1 => if 0 < σ 6 m 0 ∧ 0 < σ 11 (3 * m) 0 ∧ eligA σ m ≤ σ 0 0 0 ∧ (bgA σ m = -1 ∨ ddlA σ m < ddlA σ (bgA σ m)) then m else bgA σ m
noncomputable def lstI (π : PL) (σ : ST) (i : Int) : Nat → Int
  | 0 => -1
  | m + 1 => if π 1 m = i ∧ 0 < hel π σ m ∧ fitA π σ m ≤ σ 0 0 0 ∧ (lstI π σ i m = -1 ∨ σ 3 m 0 < σ 3 (lstI π σ i m) 0) then m else lstI π σ i m
noncomputable def leastIn (π : PL) (σ : ST) (i : Int) : Int := lstI π σ i (π 0 0).toNat
def kidN (π : PL) (c : Int) : Nat → Int
  | 0 => 0
  | m + 1 => if π 1 m = c then kidN π c m + 1 else kidN π c m
def kids (π : PL) (c : Int) : Int := kidN π c (π 0 0).toNat
noncomputable def bsF (π : PL) (σ : ST) : Nat → Int → Int
  | 0, c => c
  | f + 1, c => if c = -1 ∨ kids π c = 0 then c else bsF π σ f (leastIn π σ c)
noncomputable def byShareA (π : PL) (σ : ST) : Int := bsF π σ 13 (leastIn π σ 12)
def stepS (π : PL) (z : Int) (τ : ST) (a : Int) : ST := virA π (up τ 1 a 0 (τ 1 a 0 + z)) a (τ 12 (3 * a + 1) (τ 1 a 0 + z))
def climbS (π : PL) (z : Int) : Nat → ST → Int → ST
  | 0, τ, _ => τ
  | f + 1, τ, a => if a = 12 then τ else climbS π z f (stepS π z τ a) (π 1 a)
def popA (σ : ST) (l : Int) : ST := up (upr σ 7 l (fun i => σ 7 l ((i + 1) % 20))) 6 l 0 (σ 6 l 0 - 1)
def sendA (π : PL) (σ : ST) (l g : Int) : ST :=
  up (up (up (climbS π (σ 7 l 0) 13 (up (up (popA σ l) 2 l 0 (σ 2 l 0 + g * σ 7 l 0)) 0 3 0 (σ 0 3 0 + g)) l) 0 2 0 (σ 0 2 0 + 1)) 0 4 0 l) 0 1 0 (σ 7 l 0)
noncomputable def chooseA (π : PL) (σ : ST) : ST :=
  if bgA σ (π 0 0).toNat ≠ -1 then sendA π σ (bgA σ (π 0 0).toNat) 1 else if byShareA π σ = -1 then σ else sendA π σ (byShareA π σ) 0
def tellsNow (π : PL) (σ : ST) (f : Int) : Prop := bAnd (bShr (σ 0 5 0) f) 1 = 0 ∧ σ 0 0 0 % π 3 f = π 4 f
noncomputable def tellA (π : PL) (σ : ST) (f : Int) : ST := @ite ST (tellsNow π σ f) (Classical.propDecidable _) (acceptA π σ (π 2 f) (σ 8 f 0)) σ
noncomputable def tellsA (π : PL) : Nat → ST → ST
  | 0, σ => σ
  | m + 1, σ => tellA π (tellsA π m σ) m
noncomputable def midA (π : PL) (σ : ST) : ST := if σ 0 1 0 = 0 then chooseA π σ else σ
def tickA (σ : ST) : ST := up (up σ 0 1 0 (if 0 < σ 0 1 0 then σ 0 1 0 - 1 else σ 0 1 0)) 0 0 0 (σ 0 0 0 + 1)
noncomputable def unitA (π : PL) (σ : ST) : ST := tickA (midA π (tellsA π (π 0 1).toNat σ))
noncomputable def goA (π : PL) : Nat → ST → ST
  | 0, σ => σ
  | k + 1, σ => goA π k (unitA π σ)
def changeA (π : PL) (σ : ST) (hl : Int) (c k a b d : Int) : ST := if 0 < hl then layA (putA σ (3 * c + k) a b d) (3 * c + k) (if k = 1 then σ 3 c 0 else σ 0 0 0) (if k = 0 then σ 2 c 0 else σ 1 c 0) else putA σ (3 * c + k) a b d
theorem upc_12 (π : PL) (j : Nat) : upc π j 12 = 12 := by
  cases j with
  | zero => rfl
  | succ j => show (if (12 : Int) = 12 then 12 else upc π j (π 1 12)) = 12; rw [if_pos rfl]
theorem upc_s (π : PL) (j : Nat) {a : Int} (ha : a ≠ 12) : upc π (j + 1) a = upc π j (π 1 a) := by
  show (if a = 12 then 12 else upc π j (π 1 a)) = _; rw [if_neg ha]
theorem inCh_12 {π : PL} {b : Int} : inCh π 12 b ↔ b = 12 := ⟨fun ⟨j, h⟩ => by rw [upc_12] at h; exact h.symm, fun h => ⟨0, h.symm⟩⟩
theorem inCh_rf (π : PL) (a : Int) : inCh π a a := ⟨0, rfl⟩
theorem inCh_iff {π : PL} {a b : Int} (ha : a ≠ 12) : inCh π a b ↔ a = b ∨ inCh π (π 1 a) b := by
  constructor
  · rintro ⟨j, h⟩
    cases j with
    | zero => exact Or.inl h
    | succ j => rw [upc_s π j ha] at h; exact Or.inr ⟨j, h⟩
  · rintro (h | ⟨j, h⟩)
    · exact ⟨0, h⟩
    · exact ⟨j + 1, by rw [upc_s π j ha]; exact h⟩
/-- a tree: what a class is in stands ahead of it -/
def treeOK (π : PL) : Prop := 0 ≤ π 0 0 ∧ π 0 0 ≤ 12 ∧ ∀ c, 0 ≤ c → c < π 0 0 → π 1 c = 12 ∨ (0 ≤ π 1 c ∧ π 1 c < c)
theorem inCh_le {π : PL} (ht : treeOK π) : ∀ (j : Nat) {a b : Int}, 0 ≤ a → a < π 0 0 → upc π j a = b → b = 12 ∨ (0 ≤ b ∧ b ≤ a ∧ (b = a → j = 0 ∨ b = 12)) := by
  intro j
  induction j with
  | zero => intro a b h0 h1 h; exact Or.inr ⟨by rw [← h]; exact h0, by rw [← h]; exact Int.le_refl _, fun _ => Or.inl rfl⟩
  | succ j ih =>
    intro a b h0 h1 h
    obtain ⟨t1, t2, t3⟩ := ht
    rw [upc_s π j (by omega)] at h
    rcases t3 a h0 h1 with q | q
    · rw [q, upc_12] at h; exact Or.inl h.symm
    · rcases ih q.1 (by omega) h with r | r
      · exact Or.inl r
      · exact Or.inr ⟨r.1, by omega, fun e => by omega⟩
theorem inCh_up {π : PL} (ht : treeOK π) {a b : Int} (h0 : 0 ≤ a) (h1 : a < π 0 0) (h : inCh π a b) : b = 12 ∨ (0 ≤ b ∧ b ≤ a) := by
  obtain ⟨j, h⟩ := h
  rcases inCh_le ht j h0 h1 h with r | r
  · exact Or.inl r
  · exact Or.inr ⟨r.1, r.2.1⟩
theorem inCh_tr {π : PL} : ∀ (j : Nat) {a b c : Int}, upc π j a = b → inCh π b c → inCh π a c := by
  intro j
  induction j with
  | zero => intro a b c h q; rw [show a = b from h]; exact q
  | succ j ih =>
    intro a b c h q
    by_cases ha : a = 12
    · rw [ha, upc_12] at h; rw [ha, h]; exact q
    · rw [upc_s π j ha] at h
      exact (inCh_iff ha).mpr (Or.inr (ih h q))
theorem inCh_link {π : PL} (ht : treeOK π) : ∀ (f : Nat) {a : Int}, 0 ≤ a → a < π 0 0 → a < f → inCh π a 12 := by
  intro f
  induction f with
  | zero => intro a h0 h1 h2; omega
  | succ f ih =>
    intro a h0 h1 h2
    obtain ⟨t1, t2, t3⟩ := ht
    rw [inCh_iff (by omega)]
    rcases t3 a h0 h1 with q | q
    · rw [q]; exact Or.inr (inCh_rf _ _)
    · exact Or.inr (ih q.1 (by omega) (by omega))
theorem inCh_all {π : PL} (ht : treeOK π) {a : Int} (h0 : 0 ≤ a) (h1 : a < π 0 0) : inCh π a 12 := inCh_link ht 12 h0 h1 (by have := ht.2.1; omega)
/-- one right in the same as a, but not a, lies in no chain through a -/
theorem inCh_mate {π : PL} (ht : treeOK π) {l a k : Int} (l0 : 0 ≤ l) (l1 : l < π 0 0) (a0 : 0 ≤ a) (a1 : a < π 0 0) (k0 : 0 ≤ k) (k1 : k < π 0 0) (hp : π 1 k = π 1 a) (hka : k ≠ a) (h : inCh π l a) : ¬ inCh π l k := by
  obtain ⟨i, hi⟩ := h
  rintro ⟨j, hj⟩
  obtain ⟨t1, t2, t3⟩ := id ht
  have key : ∀ {x y : Int} {i j : Nat}, 0 ≤ x → x < π 0 0 → 0 ≤ y → y < π 0 0 → π 1 x = π 1 y → x ≠ y → upc π i l = x → upc π j l = y → i ≤ j → False := by
    intro x y i j x0 x1 y0 y1 hxy hne hx hy hij
    obtain ⟨d, rfl⟩ := Nat.exists_eq_add_of_le hij
    have cat : ∀ (i d : Nat) (a : Int), upc π (i + d) a = upc π d (upc π i a) := by
      intro i
      induction i with
      | zero => intro d a; rw [Nat.zero_add]; rfl
      | succ i ih =>
        intro d a
        rw [show i + 1 + d = i + d + 1 by omega]
        by_cases ha : a = 12
        · rw [ha, upc_12, upc_12, upc_12]
        · rw [upc_s π _ ha, upc_s π _ ha, ih]
    rw [cat, hx] at hy
    cases d with
    | zero => exact hne hy
    | succ d =>
      rw [upc_s π d (by omega), hxy] at hy
      rcases t3 y y0 y1 with q | q
      · rw [q, upc_12] at hy; omega
      · rcases inCh_le ht d q.1 (by omega) hy with r | r
        · omega
        · omega
  rcases Nat.le_total i j with q | q
  · exact key a0 a1 k0 k1 hp.symm (Ne.symm hka) hi hj q
  · exact key k0 k1 a0 a1 hp hka hj hi q
theorem sumN_congr {f g : Nat → Int} : ∀ {m : Nat}, (∀ k, k < m → f k = g k) → sumN f m = sumN g m := by
  intro m
  induction m with
  | zero => intro _; rfl
  | succ m ih => intro h; show sumN f m + f m = sumN g m + g m; rw [ih (fun k hk => h k (by omega)), h m (by omega)]
theorem sumN_nonneg {f : Nat → Int} : ∀ {m : Nat}, (∀ k, k < m → 0 ≤ f k) → 0 ≤ sumN f m := by
  intro m
  induction m with
  | zero => intro _; exact Int.le_refl _
  | succ m ih => intro h; show 0 ≤ sumN f m + f m; have := ih (fun k hk => h k (by omega)); have := h m (by omega); omega
theorem sumN_le {f : Nat → Int} {b : Int} : ∀ {m : Nat}, (∀ k, k < m → f k ≤ b) → sumN f m ≤ b * m := by
  intro m
  induction m with
  | zero => intro _; show (0 : Int) ≤ b * 0; omega
  | succ m ih =>
    intro h
    show sumN f m + f m ≤ b * ((m + 1 : Nat) : Int)
    have h1 := ih (fun k hk => h k (by omega))
    have h2 := h m (by omega)
    rw [Int.natCast_add, Int.mul_add]
    omega
theorem sumN_pos {f : Nat → Int} : ∀ {m : Nat}, (∀ k, k < m → 0 ≤ f k) → (0 < sumN f m ↔ ∃ k, k < m ∧ 0 < f k) := by
  intro m
  induction m with
  | zero => intro _; exact ⟨fun h => by have : (0 : Int) < 0 := h; omega, fun ⟨k, h, _⟩ => by omega⟩
  | succ m ih =>
    intro h
    have h1 := ih (fun k hk => h k (by omega))
    have h2 := h m (by omega)
    have h3 := sumN_nonneg (fun k (hk : k < m) => h k (by omega))
    show 0 < sumN f m + f m ↔ _
    constructor
    · intro q
      by_cases z : 0 < f m
      · exact ⟨m, by omega, z⟩
      · obtain ⟨k, k1, k2⟩ := h1.mp (by omega)
        exact ⟨k, by omega, k2⟩
    · rintro ⟨k, k1, k2⟩
      by_cases z : k = m
      · subst z; omega
      · have := h1.mpr ⟨k, by omega, k2⟩; omega
theorem sumN_one {f g : Nat → Int} {l : Nat} {δ : Int} : ∀ {m : Nat}, (∀ k, k < m → k ≠ l → g k = f k) → g l = f l + δ → sumN g m = sumN f m + (if l < m then δ else 0) := by
  intro m
  induction m with
  | zero => intro _ _; rfl
  | succ m ih =>
    intro h hl
    show sumN g m + g m = sumN f m + f m + _
    rw [ih (fun k hk => h k (by omega)) hl]
    by_cases z : m = l
    · subst z
      rw [if_neg (by omega), if_pos (by omega), hl]; omega
    · rw [h m (by omega) z]
      by_cases y : l < m
      · rw [if_pos y, if_pos (by omega)]; omega
      · rw [if_neg y, if_neg (by omega)]; omega
theorem helT_y {π : PL} {σ : ST} {b : Int} {k : Nat} (h : inCh π k b) : helT π σ b k = σ 6 k 0 := by unfold helT; rw [if_pos h]
theorem helT_n {π : PL} {σ : ST} {b : Int} {k : Nat} (h : ¬ inCh π k b) : helT π σ b k = 0 := by unfold helT; rw [if_neg h]
theorem hel_congr {π : PL} {σ τ : ST} {b : Int} (h : ∀ k, 0 ≤ k → k < π 0 0 → τ 6 k 0 = σ 6 k 0) : hel π τ b = hel π σ b := by
  refine sumN_congr (fun k hk => ?_)
  have e := h k (by omega) (by omega)
  by_cases q : inCh π k b
  · rw [helT_y q, helT_y q, e]
  · rw [helT_n q, helT_n q]
theorem hel_same {π : PL} {σ τ : ST} {b : Int} (h : τ 6 = σ 6) : hel π τ b = hel π σ b := hel_congr (fun k _ _ => by rw [h])
theorem hel_one {π : PL} {σ τ : ST} {b l δ : Int} (l0 : 0 ≤ l) (l1 : l < π 0 0) (h : ∀ k, 0 ≤ k → k < π 0 0 → k ≠ l → τ 6 k 0 = σ 6 k 0) (hl : τ 6 l 0 = σ 6 l 0 + δ) : (inCh π l b → hel π τ b = hel π σ b + δ) ∧ (¬ inCh π l b → hel π τ b = hel π σ b) := by
  have el : ((l.toNat : Nat) : Int) = l := Int.toNat_of_nonneg l0
  constructor
  · intro q
    have := sumN_one (f := helT π σ b) (g := helT π τ b) (l := l.toNat) (δ := δ) (m := (π 0 0).toNat) (fun k hk hkl => by
      by_cases z : inCh π k b
      · rw [helT_y z, helT_y z, h k (by omega) (by omega) (by omega)]
      · rw [helT_n z, helT_n z]) (by rw [helT_y (by rw [el]; exact q), helT_y (by rw [el]; exact q), el, hl])
    rw [if_pos (by omega)] at this
    exact this
  · intro q
    refine sumN_congr (fun k hk => ?_)
    by_cases z : inCh π k b
    · rw [helT_y z, helT_y z, h k (by omega) (by omega) (fun e => q (by rw [← e]; exact z))]
    · rw [helT_n z, helT_n z]
theorem hel_nonneg {π : PL} {σ : ST} {b : Int} (h : ∀ k, 0 ≤ k → k < π 0 0 → 0 ≤ σ 6 k 0) : 0 ≤ hel π σ b := by
  refine sumN_nonneg (fun k hk => ?_)
  by_cases z : inCh π k b
  · rw [helT_y z]; exact h k (by omega) (by omega)
  · rw [helT_n z]; exact Int.le_refl _
theorem hel_pos {π : PL} {σ : ST} {b : Int} (h : ∀ k, 0 ≤ k → k < π 0 0 → 0 ≤ σ 6 k 0) : 0 < hel π σ b ↔ ∃ k, 0 ≤ k ∧ k < π 0 0 ∧ inCh π k b ∧ 0 < σ 6 k 0 := by
  unfold hel
  rw [sumN_pos (fun k hk => by
    by_cases z : inCh π k b
    · rw [helT_y z]; exact h k (by omega) (by omega)
    · rw [helT_n z]; exact Int.le_refl _)]
  constructor
  · rintro ⟨k, k1, k2⟩
    by_cases z : inCh π k b
    · rw [helT_y z] at k2; exact ⟨k, by omega, by omega, z, k2⟩
    · rw [helT_n z] at k2; omega
  · rintro ⟨k, k0, k1, z, k2⟩
    have el : ((k.toNat : Nat) : Int) = k := Int.toNat_of_nonneg k0
    exact ⟨k.toNat, by omega, by rw [helT_y (by rw [el]; exact z), el]; exact k2⟩
theorem hel_le {π : PL} {σ : ST} {b : Int} (ht : treeOK π) (h : ∀ k, 0 ≤ k → k < π 0 0 → 0 ≤ σ 6 k 0 ∧ σ 6 k 0 ≤ 20) : hel π σ b ≤ 240 := by
  have := sumN_le (f := helT π σ b) (b := 20) (m := (π 0 0).toNat) (fun k hk => by
    by_cases z : inCh π k b
    · rw [helT_y z]; exact (h k (by omega) (by omega)).2
    · rw [helT_n z]; omega)
  have := ht.2.1
  unfold hel
  omega
