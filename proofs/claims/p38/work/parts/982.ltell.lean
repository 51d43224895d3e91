/-! what the law tells: parents, and curves of three; as the arrays have them -/
def clsT (hs : Nat → Nat → Bool) (cu : Nat → Nat → Int × Int × Int) (c : Nat) : List CQ :=
  (if cu c 1 = (10, 0, 10) then [] else [(1, cu c 1)]) ++ ((if hs c 0 = true then [(0, cu c 0)] else []) ++ (if hs c 2 = true then [(2, cu c 2)] else []))
def clsA (hs : Nat → Nat → Bool) (cu : Nat → Nat → Int × Int × Int) (c : Nat) : List CQ :=
  (if hs c 0 = true then [(0, cu c 0)] else []) ++ ([(1, cu c 1)] ++ (if hs c 2 = true then [(2, cu c 2)] else []))
def wq (q : Int × Int × Int) : Prop := wellC q.1 q.2.1 q.2.2
def DatOK (N : Nat) (pr : Nat → Int) (hs : Nat → Nat → Bool) (cu : Nat → Nat → Int × Int × Int) : Prop :=
  (1 ≤ N ∧ N ≤ 6) ∧ ∀ c : Nat, c < N → (pr c = 12 ∨ ((0 ≤ pr c ∧ pr c < (c : Int)) ∧ hs (pr c).toNat 0 = false)) ∧ hs c 1 = true ∧ ∀ k : Nat, k < 3 → hs c k = true → wq (cu c k)
def DatH (G : GG) (h : HP) (N : Nat) (pr : Nat → Int) (hs : Nat → Nat → Bool) (cu : Nat → Nat → Int × Int × Int) : Prop :=
  G.2.2.1 14 = N ∧ (∀ c : Nat, c < N → h 204 0 (c : Int) = rc (pr c)) ∧ (∀ c k : Nat, c < N → k < 3 → (hs c k = true → G.2.2.1 (420 + 3 * c + k) = 1 ∧ h (220 + 3 * c + k) 0 0 = (cu c k).1 ∧ h (220 + 3 * c + k) 0 1 = (cu c k).2.1 ∧ h (220 + 3 * c + k) 0 2 = (cu c k).2.2) ∧ (hs c k = false → G.2.2.1 (420 + 3 * c + k) = 0))
theorem DatH.fr {G : GG} {h h' : HP} {N : Nat} {pr : Nat → Int} {hs : Nat → Nat → Bool} {cu : Nat → Nat → Int × Int × Int} (q : DatH G h N pr hs cu) (e : ∀ k, 204 ≤ k → h' k = h k) : DatH G h' N pr hs cu := by
  obtain ⟨q1, q2, q3⟩ := q
  refine ⟨q1, fun c hc => by rw [e 204 (by decide)]; exact q2 c hc, fun c k hc hk => ?_⟩
  rw [e (220 + 3 * c + k) (by omega)]
  exact q3 c k hc hk
/-- what is told, as a plan -/
def PlanD (δ : PL) (N : Nat) (pr : Nat → Int) (hs : Nat → Nat → Bool) (cu : Nat → Nat → Int × Int × Int) : Prop :=
  δ 0 0 = (N : Int) ∧ δ 0 1 = 0 ∧ (∀ c : Nat, c < N → δ 1 (c : Int) = pr c) ∧ ∀ c k : Nat, c < N → k < 3 → (hs c k = true → δ 6 (3 * (c : Int) + (k : Int)) = (cu c k).1 ∧ δ 7 (3 * (c : Int) + (k : Int)) = (cu c k).2.1 ∧ δ 8 (3 * (c : Int) + (k : Int)) = (cu c k).2.2) ∧ (hs c k = false → δ 8 (3 * (c : Int) + (k : Int)) = 0)
def mokB : Int → List Int → Bool
  | _, [] => true
  | d, x :: cl => (bAnd (bShr d x) 1 != 1) && mokB (bOr d (bShl 1 x)) cl
def keyB (b : Bool) (l : List Int) : Bool := decide (l.length < 4) && (l.all (fun x => decide (0 ≤ x ∧ x ≤ 2)) && (mokB 0 l && ((b || l.all (fun x => decide (x ≠ 0))) && decide l.Nodup)))
theorem mokB_MOK : ∀ (cl : List CQ) (d : Int), mokB d (cl.map (fun q => q.1)) = true → MOK d cl := by
  intro cl
  induction cl with
  | nil => intro d _; exact trivial
  | cons q cl ih =>
    intro d h
    have h' : ((bAnd (bShr d q.1) 1 != 1) && mokB (bOr d (bShl 1 q.1)) (cl.map (fun q => q.1))) = true := h
    rw [Bool.and_eq_true] at h'
    exact ⟨by have := h'.1; simpa using this, ih _ h'.2⟩
def okC (b : Bool) (cl : List CQ) : Prop := cl.length < 4 ∧ (∀ q ∈ cl, (0 ≤ q.1 ∧ q.1 ≤ 2) ∧ wellC q.2.1 q.2.2.1 q.2.2.2) ∧ MOK 0 cl ∧ (b = false → ∀ q ∈ cl, q.1 ≠ 0) ∧ (cl.map (fun q => q.1)).Nodup
theorem okC_of {b : Bool} {cl : List CQ} (l : List Int) (e : cl.map (fun q => q.1) = l) (k : keyB b l = true) (hw : ∀ q ∈ cl, wq q.2) : okC b cl := by
  unfold keyB at k
  rw [Bool.and_eq_true, Bool.and_eq_true, Bool.and_eq_true, Bool.and_eq_true] at k
  obtain ⟨k1, k2, k3, k4, k5⟩ := k
  subst e
  refine ⟨by have := of_decide_eq_true k1; rw [List.length_map] at this; exact this, fun q hq => ⟨?_, hw q hq⟩, mokB_MOK cl 0 k3, fun hb q hq => ?_, of_decide_eq_true k5⟩
  · exact of_decide_eq_true (List.all_eq_true.mp k2 q.1 (List.mem_map.mpr ⟨q, hq, rfl⟩))
  · rw [hb, Bool.false_or] at k4
    exact of_decide_eq_true (List.all_eq_true.mp k4 q.1 (List.mem_map.mpr ⟨q, hq, rfl⟩))
theorem fN {P : CQ → Prop} : ∀ q ∈ ([] : List CQ), P q := fun q h => (by cases h)
theorem fC {P : CQ → Prop} {q : CQ} {cl : List CQ} (h : P q) (k : ∀ x ∈ cl, P x) : ∀ x ∈ q :: cl, P x := List.forall_mem_cons.mpr ⟨h, k⟩
section DAT
variable {N : Nat} {pr : Nat → Int} {hs : Nat → Nat → Bool} {cu : Nat → Nat → Int × Int × Int}
theorem clsT_ok (dk : DatOK N pr hs cu) {c : Nat} (hc : c < N) : okC (hs c 0) (clsT hs cu c) := by
  obtain ⟨-, h1, h2⟩ := dk.2 c hc
  have w1 : wq (cu c 1) := h2 1 (by decide) h1
  have w0 : hs c 0 = true → wq (cu c 0) := h2 0 (by decide)
  have w2 : hs c 2 = true → wq (cu c 2) := h2 2 (by decide)
  unfold clsT
  cases b : hs c 0 <;> cases d : hs c 2 <;> by_cases a : cu c 1 = (10, 0, 10)
  all_goals
    first | rw [if_pos a] | rw [if_neg a]
  · exact okC_of [] rfl (by decide) fN
  · exact okC_of [1] rfl (by decide) (fC w1 fN)
  · exact okC_of [2] rfl (by decide) (fC (w2 d) fN)
  · exact okC_of [1, 2] rfl (by decide) (fC w1 (fC (w2 d) fN))
  · exact okC_of [0] rfl (by decide) (fC (w0 b) fN)
  · exact okC_of [1, 0] rfl (by decide) (fC w1 (fC (w0 b) fN))
  · exact okC_of [0, 2] rfl (by decide) (fC (w0 b) (fC (w2 d) fN))
  · exact okC_of [1, 0, 2] rfl (by decide) (fC w1 (fC (w0 b) (fC (w2 d) fN)))
theorem clsA_ok (dk : DatOK N pr hs cu) {c : Nat} (hc : c < N) : okC (hs c 0) (clsA hs cu c) := by
  obtain ⟨-, h1, h2⟩ := dk.2 c hc
  have w1 : wq (cu c 1) := h2 1 (by decide) h1
  have w0 : hs c 0 = true → wq (cu c 0) := h2 0 (by decide)
  have w2 : hs c 2 = true → wq (cu c 2) := h2 2 (by decide)
  unfold clsA
  cases b : hs c 0 <;> cases d : hs c 2
  · exact okC_of [1] rfl (by decide) (fC w1 fN)
  · exact okC_of [1, 2] rfl (by decide) (fC w1 (fC (w2 d) fN))
  · exact okC_of [0, 1] rfl (by decide) (fC (w0 b) (fC w1 fN))
  · exact okC_of [0, 1, 2] rfl (by decide) (fC (w0 b) (fC w1 (fC (w2 d) fN)))
theorem tellOK_of {cls : Nat → List CQ} (dk : DatOK N pr hs cu) (h : ∀ c : Nat, c < N → okC (hs c 0) (cls c)) : TellOK pr cls N := by
  refine ⟨by have := dk.1; omega, fun c hc => ?_⟩
  obtain ⟨h1, -⟩ := dk.2 c hc
  obtain ⟨g1, g2, g3, -⟩ := h c hc
  refine ⟨?_, g1, g2, g3⟩
  rcases h1 with q | ⟨q1, q2⟩
  · exact Or.inl q
  · exact Or.inr ⟨q1, (h (pr c).toNat (by omega)).2.2.2.1 q2⟩
theorem okTl (dk : DatOK N pr hs cu) : TellOK pr (clsT hs cu) N := tellOK_of dk (fun _ hc => clsT_ok dk hc)
theorem okAl (dk : DatOK N pr hs cu) : TellOK pr (clsA hs cu) N := tellOK_of dk (fun _ hc => clsA_ok dk hc)
theorem planD_of {cls : Nat → List CQ} (dk : DatOK N pr hs cu) (ok : TellOK pr cls N) (hsl : ∀ (c : Nat) (δ : PL), c < N → δ 6 (3 * (c : Int) + 1) = 10 → δ 7 (3 * (c : Int) + 1) = 0 → δ 8 (3 * (c : Int) + 1) = 10 → δ 8 (3 * (c : Int)) = 0 → δ 8 (3 * (c : Int) + 2) = 0 → ∀ k : Nat, k < 3 → (hs c k = true → putL (3 * (c : Int)) (cls c) δ 6 (3 * (c : Int) + (k : Int)) = (cu c k).1 ∧ putL (3 * (c : Int)) (cls c) δ 7 (3 * (c : Int) + (k : Int)) = (cu c k).2.1 ∧ putL (3 * (c : Int)) (cls c) δ 8 (3 * (c : Int) + (k : Int)) = (cu c k).2.2) ∧ (hs c k = false → putL (3 * (c : Int)) (cls c) δ 8 (3 * (c : Int) + (k : Int)) = 0)) : PlanD (foldC pr cls N) N pr hs cu := by
  refine ⟨(fold_0 pr cls N).1, (fold_0 pr cls N).2, fun c hc => fold_1 pr cls N c hc, fun c k hc hk => ?_⟩
  have f6 := fold_at ok c N hc (Nat.le_refl N) 6 (k : Int) (by decide) (by omega) (by omega)
  have f7 := fold_at ok c N hc (Nat.le_refl N) 7 (k : Int) (by decide) (by omega) (by omega)
  have f8 := fold_at ok c N hc (Nat.le_refl N) 8 (k : Int) (by decide) (by omega) (by omega)
  rw [f6, f7, f8]
  have e0 := (fold_0 pr cls c).1
  have s := addC_s (δ := foldC pr cls c) (i := pr c)
  rw [e0] at s
  refine hsl c (addC (foldC pr cls c) (pr c)) hc s.1 s.2.1 s.2.2 ?_ ?_ k hk
  · rw [addC_o (by decide) (by rw [e0]; omega)]
    exact fold_hi ok c (by omega) 8 _ (by decide) (by omega)
  · rw [addC_o (by decide) (by rw [e0]; omega)]
    exact fold_hi ok c (by omega) 8 _ (by decide) (by omega)
theorem putL_in {b : Int} {q : CQ} : ∀ {cl : List CQ} {δ : PL}, (cl.map (fun q => q.1)).Nodup → q ∈ cl → putL b cl δ 6 (b + q.1) = q.2.1 ∧ putL b cl δ 7 (b + q.1) = q.2.2.1 ∧ putL b cl δ 8 (b + q.1) = q.2.2.2 := by
  intro cl
  induction cl with
  | nil => intro δ _ h; cases h
  | cons x cl ih =>
    intro δ hn hq
    obtain ⟨n1, n2⟩ := List.nodup_cons.mp hn
    rcases List.mem_cons.mp hq with e | e
    · subst e
      have o : ∀ y ∈ cl, b + y.1 ≠ b + q.1 := fun y hy e => n1 (by
        show q.1 ∈ _
        rw [show q.1 = y.1 by omega]
        exact List.mem_map.mpr ⟨y, hy, rfl⟩)
      show putL b cl _ 6 _ = _ ∧ putL b cl _ 7 _ = _ ∧ putL b cl _ 8 _ = _
      rw [putL_o o, putL_o o, putL_o o]
      exact putD_s
    · exact ih n2 e
theorem k3 {k : Nat} (hk : k < 3) : k = 0 ∨ k = 1 ∨ k = 2 := by omega
theorem plan_of {cl : List CQ} {c : Nat} {δ : PL} (hok : okC (hs c 0) cl) (h1 : hs c 1 = true) (m0 : hs c 0 = true → ((0 : Int), cu c 0) ∈ cl) (m2 : hs c 2 = true → ((2 : Int), cu c 2) ∈ cl) (m1 : ((1 : Int), cu c 1) ∈ cl ∨ (cu c 1 = (10, 0, 10) ∧ ∀ q ∈ cl, q.1 ≠ 1)) (o2 : hs c 2 = false → ∀ q ∈ cl, q.1 ≠ 2)
    (e1 : δ 6 (3 * (c : Int) + 1) = 10) (e2 : δ 7 (3 * (c : Int) + 1) = 0) (e3 : δ 8 (3 * (c : Int) + 1) = 10) (e4 : δ 8 (3 * (c : Int)) = 0) (e5 : δ 8 (3 * (c : Int) + 2) = 0) : ∀ k : Nat, k < 3 → (hs c k = true → putL (3 * (c : Int)) cl δ 6 (3 * (c : Int) + (k : Int)) = (cu c k).1 ∧ putL (3 * (c : Int)) cl δ 7 (3 * (c : Int) + (k : Int)) = (cu c k).2.1 ∧ putL (3 * (c : Int)) cl δ 8 (3 * (c : Int) + (k : Int)) = (cu c k).2.2) ∧ (hs c k = false → putL (3 * (c : Int)) cl δ 8 (3 * (c : Int) + (k : Int)) = 0) := by
  obtain ⟨-, -, -, o0, nd⟩ := hok
  intro k hk
  rcases k3 hk with rfl | rfl | rfl
  · refine ⟨fun z => putL_in nd (m0 z), fun z => ?_⟩
    rw [putL_o (fun q hq => by have := o0 z q hq; omega), show 3 * (c : Int) + ((0 : Nat) : Int) = 3 * (c : Int) by omega]
    exact e4
  · refine ⟨fun z => ?_, fun z => absurd (h1.symm.trans z) (by decide)⟩
    rcases m1 with m | ⟨m, o1⟩
    · exact putL_in nd m
    · have o : ∀ q ∈ cl, 3 * (c : Int) + q.1 ≠ 3 * (c : Int) + ((1 : Nat) : Int) := fun q hq => by have := o1 q hq; omega
      rw [putL_o o, putL_o o, putL_o o, m]
      exact ⟨e1, e2, e3⟩
  · refine ⟨fun z => putL_in nd (m2 z), fun z => ?_⟩
    rw [putL_o (fun q hq => by have := o2 z q hq; omega)]
    exact e5
theorem mT0 {c : Nat} (h : hs c 0 = true) : ((0 : Int), cu c 0) ∈ clsT hs cu c := List.mem_append.mpr (Or.inr (List.mem_append.mpr (Or.inl (by rw [if_pos h]; exact List.mem_singleton.mpr rfl))))
theorem mT2 {c : Nat} (h : hs c 2 = true) : ((2 : Int), cu c 2) ∈ clsT hs cu c := List.mem_append.mpr (Or.inr (List.mem_append.mpr (Or.inr (by rw [if_pos h]; exact List.mem_singleton.mpr rfl))))
theorem mA0 {c : Nat} (h : hs c 0 = true) : ((0 : Int), cu c 0) ∈ clsA hs cu c := List.mem_append.mpr (Or.inl (by rw [if_pos h]; exact List.mem_singleton.mpr rfl))
theorem mA1 {c : Nat} : ((1 : Int), cu c 1) ∈ clsA hs cu c := List.mem_append.mpr (Or.inr (List.mem_append.mpr (Or.inl (List.mem_singleton.mpr rfl))))
theorem mA2 {c : Nat} (h : hs c 2 = true) : ((2 : Int), cu c 2) ∈ clsA hs cu c := List.mem_append.mpr (Or.inr (List.mem_append.mpr (Or.inr (by rw [if_pos h]; exact List.mem_singleton.mpr rfl))))
theorem kIf {p : Prop} [Decidable p] {x q : CQ} (h : q ∈ (if p then [x] else [])) : p ∧ q = x := by
  by_cases c : p
  · rw [if_pos c] at h; exact ⟨c, List.mem_singleton.mp h⟩
  · rw [if_neg c] at h; cases h
theorem kIfn {p : Prop} [Decidable p] {x q : CQ} (h : q ∈ (if p then [] else [x])) : ¬ p ∧ q = x := by
  by_cases c : p
  · rw [if_pos c] at h; cases h
  · rw [if_neg c] at h; exact ⟨c, List.mem_singleton.mp h⟩
theorem kT {c : Nat} {q : CQ} (h : q ∈ clsT hs cu c) : (q.1 = 1 ∧ cu c 1 ≠ (10, 0, 10)) ∨ (q.1 = 0) ∨ (q.1 = 2 ∧ hs c 2 = true) := by
  rcases List.mem_append.mp h with z | z
  · obtain ⟨a, b⟩ := kIfn z
    exact Or.inl ⟨by rw [b], a⟩
  · rcases List.mem_append.mp z with z | z
    · obtain ⟨a, b⟩ := kIf z
      exact Or.inr (Or.inl (by rw [b]))
    · obtain ⟨a, b⟩ := kIf z
      exact Or.inr (Or.inr ⟨by rw [b], a⟩)
theorem kA {c : Nat} {q : CQ} (h : q ∈ clsA hs cu c) : q.1 = 1 ∨ (q.1 = 0) ∨ (q.1 = 2 ∧ hs c 2 = true) := by
  rcases List.mem_append.mp h with z | z
  · obtain ⟨a, b⟩ := kIf z
    exact Or.inr (Or.inl (by rw [b]))
  · rcases List.mem_append.mp z with z | z
    · exact Or.inl (by rw [List.mem_singleton.mp z])
    · obtain ⟨a, b⟩ := kIf z
      exact Or.inr (Or.inr ⟨by rw [b], a⟩)
theorem planT (dk : DatOK N pr hs cu) : PlanD (foldC pr (clsT hs cu) N) N pr hs cu := by
  refine planD_of dk (okTl dk) (fun c δ hc e1 e2 e3 e4 e5 => ?_)
  obtain ⟨-, h1, -⟩ := dk.2 c hc
  refine plan_of (clsT_ok dk hc) h1 mT0 mT2 ?_ (fun z q hq e => ?_) e1 e2 e3 e4 e5
  · by_cases a : cu c 1 = (10, 0, 10)
    · refine Or.inr ⟨a, fun q hq e => ?_⟩
      rcases kT hq with ⟨-, w⟩ | w | ⟨w, -⟩
      · exact w a
      · omega
      · omega
    · exact Or.inl (List.mem_append.mpr (Or.inl (by rw [if_neg a]; exact List.mem_singleton.mpr rfl)))
  · rcases kT hq with ⟨w, -⟩ | w | ⟨-, w⟩
    · omega
    · omega
    · rw [z] at w; cases w
theorem planA (dk : DatOK N pr hs cu) : PlanD (foldC pr (clsA hs cu) N) N pr hs cu := by
  refine planD_of dk (okAl dk) (fun c δ hc e1 e2 e3 e4 e5 => ?_)
  obtain ⟨-, h1, -⟩ := dk.2 c hc
  refine plan_of (clsA_ok dk hc) h1 mA0 mA2 (Or.inl mA1) (fun z q hq e => ?_) e1 e2 e3 e4 e5
  rcases kA hq with w | w | ⟨-, w⟩
  · omega
  · omega
  · rw [z] at w; cases w
theorem cuT_len (q : CQ) (hq : 0 ≤ q.1 ∧ q.1 ≤ 2) : (cuT q).length ≤ 18 := by
  have := wd_len q.1.toNat (by omega)
  have := c3_len q.2.1 q.2.2.1 q.2.2.2
  unfold cuT
  simp only [List.length_cons, List.length_append]
  omega
theorem flat_len : ∀ (cl : List CQ), (∀ q ∈ cl, 0 ≤ q.1 ∧ q.1 ≤ 2) → (cl.flatMap cuT).length ≤ 18 * cl.length := by
  intro cl
  induction cl with
  | nil => intro _; exact Nat.le_refl _
  | cons q cl ih =>
    intro h
    have h1 := cuT_len q (h q List.mem_cons_self)
    have h2 := ih (fun x hx => h x (List.mem_cons_of_mem _ hx))
    rw [List.flatMap_cons, List.length_append, List.length_cons]
    omega
theorem clT_len {i : Int} {cl : List CQ} (h : ∀ q ∈ cl, 0 ≤ q.1 ∧ q.1 ≤ 2) (hl : cl.length < 4) : (clT i cl).length ≤ 70 := by
  have h1 := flat_len cl h
  have h2 := wd_len 3 (by decide)
  have h3 := wd_len 5 (by decide)
  have h4 := dg_len i
  unfold clT
  rw [List.length_append, List.length_append, List.length_append]
  have h5 : (if i = 12 then ([] : List Int) else 32 :: (wd 5 ++ 32 :: dg i)).length ≤ 10 := by
    split
    · exact Nat.zero_le _
    · simp only [List.length_cons, List.length_append]
      omega
  have h6 : ([59] : List Int).length = 1 := rfl
  omega
theorem txF_le {cls : Nat → List CQ} (ok : TellOK pr cls N) : ∀ (k c : Nat), c + k ≤ N → (txF pr cls c k).length ≤ 70 * k := by
  intro k
  induction k with
  | zero => intro c _; exact Nat.le_refl _
  | succ k ih =>
    intro c hc
    have o := ok.2 c (by omega)
    show (clT (pr c) (cls c) ++ txF pr cls (c + 1) k).length ≤ _
    rw [List.length_append]
    have h1 := clT_len (i := pr c) (cl := cls c) (fun q hq => (o.2.2.1 q hq).1) o.2.1
    have h2 := ih (c + 1) (by omega)
    omega
end DAT
