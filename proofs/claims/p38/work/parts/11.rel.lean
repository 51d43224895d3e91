def xB : Int := 18000000
def cur (σ : ST) (s : Int) : Int := if s % 3 = 0 then σ 2 (s / 3) 0 else σ 1 (s / 3) 0
def wellC (m1 d m2 : Int) : Prop := 0 ≤ m1 ∧ m1 ≤ 100 ∧ 0 ≤ d ∧ d ≤ 30 ∧ 1 ≤ m2 ∧ m2 ≤ 100
def tbend (m1 d m2 : Int) : Int := if d = 0 ∨ m1 = m2 then 0 else max 1 ((m1 * d + 99) / 100)
def lnK (k : Nat) : Prop := k = 6 ∨ (13 ≤ k ∧ k ≤ 19) ∨ (24 ≤ k ∧ k ≤ 33)
def ltF (σ : ST) (s x y n : Int) : Int := reachA (σ 9 s 0) (σ 10 s 0) (σ 11 s 0) x y n
def ltE (σ : ST) (s x y n : Int) : Int := reachA (max (σ 9 s 0) (σ 11 s 0)) (σ 10 s 0) (σ 11 s 0) x y n
def LaidC (h : HP) (L s : Int) (σ : ST) : Prop :=
  (0 ≤ h 17 L s ∧ h 17 L s ≤ 32) ∧
  (∀ i, 0 ≤ i → i < h 17 L s → (0 ≤ h 18 L (s * 32 + i) ∧ h 18 L (s * 32 + i) ≤ xB) ∧ (0 ≤ h 19 L (s * 32 + i) ∧ h 19 L (s * 32 + i) ≤ cur σ s)) ∧
  (∀ i j, 0 ≤ i → i < j → j < h 17 L s → h 19 L (s * 32 + i) < h 19 L (s * 32 + j)) ∧
  (∀ n, cur σ s ≤ n → IsMax (h 17 L s) (fun i => ltF σ s (h 18 L (s * 32 + i)) (h 19 L (s * 32 + i)) n) (σ 12 s n)) ∧
  (∀ n, cur σ s ≤ n → IsMax (h 17 L s) (fun i => ltE σ s (h 18 L (s * 32 + i)) (h 19 L (s * 32 + i)) n) (σ 13 s n))
def CurveC (h : HP) (L s : Int) (σ : ST) : Prop :=
  h 13 L s = σ 9 s 0 ∧ h 14 L s = σ 10 s 0 ∧ h 15 L s = σ 11 s 0 ∧ (0 < σ 11 s 0 → h 16 L s = tbend (σ 9 s 0) (σ 10 s 0) (σ 11 s 0)) ∧ (σ 11 s 0 = 0 → h 17 L s = 0) ∧ LaidC h L s σ
def QueC (h : HP) (L c : Int) (σ : ST) : Prop := (0 ≤ h 31 L c ∧ h 31 L c < 20) ∧ ∀ i, 0 ≤ i → i < 20 → h 30 L (c * 20 + (h 31 L c + i) % 20) = σ 7 c i
/-- a Line of the class and a state, but for how many wait -/
def LineD (h : HP) (L : Int) (π : PL) (σ : ST) : Prop :=
  (h 6 L 1 = σ 0 0 0 ∧ h 6 L 2 = σ 0 1 0 ∧ h 6 L 3 = σ 0 2 0 ∧ h 6 L 4 = σ 0 3 0 ∧ h 6 L 5 = σ 0 4 0 ∧ h 6 L 6 = σ 0 5 0) ∧
  (∀ c, 0 ≤ c → c < π 0 0 → h 24 L c = σ 1 c 0 ∧ h 25 L c = σ 2 c 0 ∧ h 26 L c = σ 3 c 0 ∧ h 28 L c = σ 5 c 0 ∧ QueC h L c σ) ∧
  (∀ c, (0 ≤ c ∧ c < π 0 0) ∨ c = 12 → h 27 L c = σ 4 c 0) ∧
  (∀ f, 0 ≤ f → f < π 0 1 → h 32 L f = σ 8 f 0) ∧
  (∀ s, 0 ≤ s → s < 3 * π 0 0 → CurveC h L s σ)
def HeldC (h : HP) (L : Int) (π : PL) (w : Int → Int) : Prop := ∀ c, (0 ≤ c ∧ c < π 0 0) ∨ c = 12 → h 29 L c = w c
def LineC (h : HP) (L : Int) (π : PL) (σ : ST) : Prop := LineD h L π σ ∧ HeldC h L π (hel π σ)
def PlanC (h : HP) (i : Int) (π : PL) : Prop :=
  (h 8 i 0 = π 0 0 ∧ h 8 i 1 = π 0 1) ∧
  (∀ c, 0 ≤ c → c < π 0 0 → h 37 i c = π 1 c ∧ h 39 i (π 1 c * 12 + kidN π (π 1 c) c.toNat) = c) ∧
  (∀ c, 0 ≤ c ∧ c ≤ 12 → h 38 i c = kids π c) ∧
  (∀ f, 0 ≤ f → f < π 0 1 → h 40 i f = π 2 f ∧ h 41 i f = π 3 f ∧ h 42 i f = π 4 f ∧ h 43 i f = π 5 f)
def PlanOK (π : PL) : Prop := treeOK π ∧ (0 ≤ π 0 1 ∧ π 0 1 ≤ 8) ∧ ∀ f, 0 ≤ f → f < π 0 1 → ((0 ≤ π 2 f ∧ π 2 f < π 0 0) ∧ kids π (π 2 f) = 0) ∧ (1 ≤ π 3 f ∧ π 3 f ≤ 200) ∧ (0 ≤ π 4 f ∧ π 4 f ≤ 199) ∧ (1 ≤ π 5 f ∧ π 5 f ≤ 64)
def FOK (g : Int → Int) (c : Int) : Prop := ∀ n, c ≤ n → 0 ≤ g n ∧ ∀ k, 0 ≤ k → g n ≤ g (n + k) ∧ g (n + k) ≤ g n + (100 * k + 31)
def slotOK (σ : ST) (s : Int) : Prop :=
  (0 ≤ σ 11 s 0 ∧ (0 < σ 11 s 0 → wellC (σ 9 s 0) (σ 10 s 0) (σ 11 s 0))) ∧ FOK (σ 12 s) (cur σ s) ∧ FOK (σ 13 s) (cur σ s) ∧ (s % 3 ≠ 1 → ∀ n, cur σ s ≤ n → σ 12 s n ≤ σ 0 0 0 + 31 + 100 * n ∧ σ 13 s n ≤ σ 0 0 0 + 31 + 100 * n)
def classOK (π : PL) (σ : ST) (K c : Int) : Prop :=
  (0 ≤ σ 2 c 0 ∧ σ 2 c 0 ≤ σ 1 c 0 ∧ σ 1 c 0 ≤ σ 0 0 0 + σ 0 1 0) ∧ (0 ≤ σ 3 c 0 ∧ σ 3 c 0 ≤ 6500 * σ 0 2 0) ∧ (0 ≤ σ 5 c 0 ∧ σ 5 c 0 ≤ 8 * σ 0 0 0 + K) ∧ (0 ≤ σ 6 c 0 ∧ σ 6 c 0 ≤ 20) ∧ (kids π c ≠ 0 → σ 6 c 0 = 0) ∧
  (∀ i, 0 ≤ i → i < σ 6 c 0 → 1 ≤ σ 7 c i ∧ σ 7 c i ≤ 64) ∧ 0 < σ 11 (3 * c + 1) 0 ∧ (0 < σ 11 (3 * c) 0 → kids π c = 0) ∧ σ 12 (3 * c + 1) (σ 1 c 0) ≤ σ 3 c 0
def AInv (π : PL) (K : Int) (σ : ST) : Prop :=
  (0 ≤ σ 0 0 0 ∧ σ 0 0 0 ≤ 2700) ∧ (0 ≤ σ 0 1 0 ∧ σ 0 1 0 ≤ 64) ∧ (0 ≤ σ 0 2 0 ∧ σ 0 2 0 ≤ σ 0 0 0) ∧ (0 ≤ σ 0 3 0 ∧ σ 0 3 0 ≤ σ 0 2 0) ∧ (σ 0 4 0 = -1 ∨ (0 ≤ σ 0 4 0 ∧ σ 0 4 0 < π 0 0)) ∧ (0 ≤ σ 0 5 0 ∧ σ 0 5 0 < 256) ∧
  (∀ c, 0 ≤ c → c < π 0 0 → classOK π σ K c) ∧ (∀ c, (0 ≤ c ∧ c < π 0 0) ∨ c = 12 → 0 ≤ σ 4 c 0 ∧ σ 4 c 0 ≤ 6500 * σ 0 2 0) ∧
  (∀ f, 0 ≤ f → f < π 0 1 → 1 ≤ σ 8 f 0 ∧ σ 8 f 0 ≤ 64) ∧ (∀ s, 0 ≤ s → s < 3 * π 0 0 → slotOK σ s)
def FrL (L : Int) (h h' : HP) : Prop := ∀ k i, ¬ (i = L ∧ lnK k) → h' k i = h k i
theorem FrL.rf (L : Int) (h : HP) : FrL L h h := fun _ _ _ => rfl
theorem FrL.tr {L : Int} {h h' h'' : HP} (a : FrL L h h') (b : FrL L h' h'') : FrL L h h'' := fun k i q => by rw [b k i q, a k i q]
theorem FrL.upr {L : Int} {h : HP} {k : Nat} {g : Int → Int} (hk : lnK k) : FrL L h (upr h k L g) := by
  intro k' i q
  by_cases e : i = L
  · exact congrFun (upr_k (fun z => q ⟨e, by rw [z]; exact hk⟩)) i
  · exact upr_i e
theorem FrL.up {L : Int} {h : HP} {k : Nat} {j v : Int} (hk : lnK k) : FrL L h (up h k L j v) := FrL.upr hk
theorem CurveC.congr {h h' : HP} {L s : Int} {σ : ST} (e : ∀ k, lnK k → h' k L = h k L) (q : CurveC h L s σ) : CurveC h' L s σ := by
  unfold CurveC LaidC at *
  rw [e 13 (by unfold lnK; omega), e 14 (by unfold lnK; omega), e 15 (by unfold lnK; omega), e 16 (by unfold lnK; omega), e 17 (by unfold lnK; omega), e 18 (by unfold lnK; omega), e 19 (by unfold lnK; omega)]
  exact q
theorem LineC.congr {h h' : HP} {L : Int} {π : PL} {σ : ST} (e : ∀ k, lnK k → h' k L = h k L) (q : LineC h L π σ) : LineC h' L π σ := by
  obtain ⟨⟨a1, a2, a3, a4, a5⟩, b⟩ := q
  refine ⟨⟨?_, ?_, ?_, ?_, fun s s0 s1 => (a5 s s0 s1).congr e⟩, ?_⟩
  · rw [e 6 (by unfold lnK; omega)]; exact a1
  · unfold QueC at *
    rw [e 24 (by unfold lnK; omega), e 25 (by unfold lnK; omega), e 26 (by unfold lnK; omega), e 28 (by unfold lnK; omega), e 30 (by unfold lnK; omega), e 31 (by unfold lnK; omega)]; exact a2
  · rw [e 27 (by unfold lnK; omega)]; exact a3
  · rw [e 32 (by unfold lnK; omega)]; exact a4
  · unfold HeldC at *
    rw [e 29 (by unfold lnK; omega)]; exact b
theorem LineC.fr {h h' : HP} {L M : Int} {π : PL} {σ : ST} (q : LineC h L π σ) (f : FrL M h h') (hLM : L ≠ M) : LineC h' L π σ :=
  q.congr (fun k _ => f k L (fun z => hLM z.1))
theorem PlanC.congr {h h' : HP} {i : Int} {π : PL} (e : ∀ k, k = 8 ∨ (37 ≤ k ∧ k ≤ 43) → h' k i = h k i) (q : PlanC h i π) : PlanC h' i π := by
  unfold PlanC at *
  rw [e 8 (by omega), e 37 (by omega), e 38 (by omega), e 39 (by omega), e 40 (by omega), e 41 (by omega), e 42 (by omega), e 43 (by omega)]
  exact q
theorem PlanC.fr {h h' : HP} {i M : Int} {π : PL} (q : PlanC h i π) (f : FrL M h h') : PlanC h' i π :=
  q.congr (fun k hk => f k i (fun z => by unfold lnK at z; omega))
