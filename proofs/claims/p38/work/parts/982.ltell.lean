/-! what the law tells: parents, and curves of three; as the arrays have them -/
def clsT (hs : Nat → Nat → Bool) (cu : Nat → Nat → Int × Int × Int) (c : Nat) : List CQ :=
  (if cu c 1 = (10, 0, 10) then [] else [(1, cu c 1)]) ++ ((if hs c 0 = true then [(0, cu c 0)] else []) ++ (if hs c 2 = true then [(2, cu c 2)] else []))
def clsA (hs : Nat → Nat → Bool) (cu : Nat → Nat → Int × Int × Int) (c : Nat) : List CQ :=
  (if hs c 0 = true then [(0, cu c 0)] else []) ++ ([(1, cu c 1)] ++ (if hs c 2 = true then [(2, cu c 2)] else []))
def wq (q : Int × Int × Int) : Prop := wellC q.1 q.2.1 q.2.2
def DatOK (N : Nat) (pr : Nat → Int) (hs : Nat → Nat → Bool) (cu : Nat → Nat → Int × Int × Int) : Prop :=
  (1 ≤ N ∧ N ≤ 6) ∧ ∀ c : Nat, c < N → (pr c = 12 ∨ ((0 ≤ pr c ∧ pr c < (c : Int)) ∧ hs (pr c).toNat 0 = false)) ∧ hs c 1 = true ∧ ∀ k : Nat, k < 3 → hs c k = true → wq (cu c k)
def DatH (G : GG) (h : HP) (N : Nat) (pr : Nat → Int) (hs : Nat → Nat → Bool) (cu : Nat → Nat → Int × Int × Int) : Prop :=
  G.2.2.1 14 = N ∧ (∀ c : Nat, c < N → h 204 0 (c : Int) = rc (pr c)) ∧ (∀ c k : Nat, c < N → k < 3 → (hs c k = true → G.2.2.1 (420 + 3 * c + k) = 1 ∧ h (220 + 3 * c + k) 0 0 = (cu c k).1 ∧ h (220 + 3 * c + k) 0 1 = (cu c k).2.1 ∧ h (220 + 3 * c + k) 0 2 = (cu c k).2.2) ∧ (hs c k = false → G.2.2.1 (420 + 3 * c + k) = 0))
theorem DatH.fr {G : GG} {h h' : HP} {N : Nat} {pr : Nat → Int} {hs : Nat → Nat → Bool} {cu : Nat → Nat → Int × Int × Int} (q : DatH G h N pr hs cu) (e : ∀ k, 204 ≤ k → h' k = h k) : DatH G h' N pr hs cu := by
  obtain ⟨q1, q2, q3⟩ := q
  refine ⟨q1, fun c hc => by rw [e 204 (by decide)]; exact q2 c hc, fun c k hc hk => ?_⟩
  rw [e (220 + 3 * c + k) (by omega)]
  exact q3 c k hc hk
/-- what is told, as a plan -/
def PlanD (δ : PL) (N : Nat) (pr : Nat → Int) (hs : Nat → Nat → Bool) (cu : Nat → Nat → Int × Int × Int) : Prop :=
  δ 0 0 = (N : Int) ∧ δ 0 1 = 0 ∧ (∀ c : Nat, c < N → δ 1 (c : Int) = pr c) ∧ ∀ c k : Nat, c < N → k < 3 → (hs c k = true → δ 6 (3 * (c : Int) + (k : Int)) = (cu c k).1 ∧ δ 7 (3 * (c : Int) + (k : Int)) = (cu c k).2.1 ∧ δ 8 (3 * (c : Int) + (k : Int)) = (cu c k).2.2) ∧ (hs c k = false → δ 8 (3 * (c : Int) + (k : Int)) = 0)
theorem bits_MT : MOK 0 [(1, (0, 0, 0)), (0, (0, 0, 0)), (2, (0, 0, 0))] ∧ MOK 0 [(1, (0, 0, 0)), (0, (0, 0, 0))] ∧ MOK 0 [(1, (0, 0, 0)), (2, (0, 0, 0))] ∧ MOK 0 [(1, (0, 0, 0))] ∧ MOK 0 [(0, (0, 0, 0)), (2, (0, 0, 0))] ∧ MOK 0 [(0, (0, 0, 0))] ∧ MOK 0 [(2, (0, 0, 0))] ∧ MOK 0 [(0, (0, 0, 0)), (1, (0, 0, 0)), (2, (0, 0, 0))] ∧ MOK 0 [(0, (0, 0, 0)), (1, (0, 0, 0))] ∧ MOK 0 [(1, (0, 0, 0)), (2, (0, 0, 0))] := by
  unfold MOK
  simp only [MOK]
  decide
theorem MOK_keys : ∀ (cl cl' : List CQ) (d : Int), cl.map (fun q => q.1) = cl'.map (fun q => q.1) → MOK d cl → MOK d cl' := by
  intro cl
  induction cl with
  | nil =>
    intro cl' d h _
    cases cl' with
    | nil => exact trivial
    | cons a b => simp at h
  | cons q cl ih =>
    intro cl' d h hm
    cases cl' with
    | nil => simp at h
    | cons q' cl' =>
      simp only [List.map_cons, List.cons.injEq] at h
      obtain ⟨h1, h2⟩ := hm
      rw [h.1] at h1 h2
      exact ⟨h1, ih cl' _ h.2 h2⟩
section DAT
variable {N : Nat} {pr : Nat → Int} {hs : Nat → Nat → Bool} {cu : Nat → Nat → Int × Int × Int}
theorem clsT_ok (dk : DatOK N pr hs cu) {c : Nat} (hc : c < N) : (clsT hs cu c).length < 4 ∧ (∀ q ∈ clsT hs cu c, (0 ≤ q.1 ∧ q.1 ≤ 2) ∧ wellC q.2.1 q.2.2.1 q.2.2.2) ∧ MOK 0 (clsT hs cu c) ∧ (hs c 0 = false → ∀ q ∈ clsT hs cu c, q.1 ≠ 0) := by
  obtain ⟨-, h1, h2⟩ := dk.2 c hc
  obtain ⟨m1, m2, m3, m4, m5, m6, m7, -⟩ := bits_MT
  have w1 := h2 1 (by decide) h1
  unfold clsT
  by_cases a : cu c 1 = (10, 0, 10) <;> by_cases b : hs c 0 = true <;> by_cases d : hs c 2 = true
  all_goals
    first | rw [if_pos a] | rw [if_neg a]
    first | rw [if_pos b] | rw [if_neg b]
    first | rw [if_pos d] | rw [if_neg d]
  · exact ⟨by decide, fun q hq => by
      rcases List.mem_cons.mp hq with z | z
      · rw [z]; exact ⟨⟨by decide, by decide⟩, h2 0 (by decide) b⟩
      · rw [List.mem_singleton.mp z]; exact ⟨⟨by decide, by decide⟩, h2 2 (by decide) d⟩, MOK_keys _ _ 0 rfl m5, fun z => by rw [b] at z; cases z⟩
  · exact ⟨by decide, fun q hq => by
      rw [List.mem_singleton.mp hq]; exact ⟨⟨by decide, by decide⟩, h2 0 (by decide) b⟩, MOK_keys _ _ 0 rfl m6, fun z => by rw [b] at z; cases z⟩
  · exact ⟨by decide, fun q hq => by
      rw [List.mem_singleton.mp hq]; exact ⟨⟨by decide, by decide⟩, h2 2 (by decide) d⟩, MOK_keys _ _ 0 rfl m7, fun _ q hq => by rw [List.mem_singleton.mp hq]; show (2 : Int) ≠ 0; decide⟩
  · exact ⟨by decide, fun q hq => (by cases hq), trivial, fun _ q hq => (by cases hq)⟩
  · exact ⟨by decide, fun q hq => by
      rcases List.mem_cons.mp hq with z | z
      · rw [z]; exact ⟨⟨by decide, by decide⟩, w1⟩
      · rcases List.mem_cons.mp z with z | z
        · rw [z]; exact ⟨⟨by decide, by decide⟩, h2 0 (by decide) b⟩
        · rw [List.mem_singleton.mp z]; exact ⟨⟨by decide, by decide⟩, h2 2 (by decide) d⟩, MOK_keys _ _ 0 rfl m1, fun z => by rw [b] at z; cases z⟩
  · exact ⟨by decide, fun q hq => by
      rcases List.mem_cons.mp hq with z | z
      · rw [z]; exact ⟨⟨by decide, by decide⟩, w1⟩
      · rw [List.mem_singleton.mp z]; exact ⟨⟨by decide, by decide⟩, h2 0 (by decide) b⟩, MOK_keys _ _ 0 rfl m2, fun z => by rw [b] at z; cases z⟩
  · exact ⟨by decide, fun q hq => by
      rcases List.mem_cons.mp hq with z | z
      · rw [z]; exact ⟨⟨by decide, by decide⟩, w1⟩
      · rw [List.mem_singleton.mp z]; exact ⟨⟨by decide, by decide⟩, h2 2 (by decide) d⟩, MOK_keys _ _ 0 rfl m3, fun _ q hq => by
      rcases List.mem_cons.mp hq with z | z
      · rw [z]; show (1 : Int) ≠ 0; decide
      · rw [List.mem_singleton.mp z]; show (2 : Int) ≠ 0; decide⟩
  · exact ⟨by decide, fun q hq => by
      rw [List.mem_singleton.mp hq]; exact ⟨⟨by decide, by decide⟩, w1⟩, MOK_keys _ _ 0 rfl m4, fun _ q hq => by rw [List.mem_singleton.mp hq]; show (1 : Int) ≠ 0; decide⟩
theorem clsA_ok (dk : DatOK N pr hs cu) {c : Nat} (hc : c < N) : (clsA hs cu c).length < 4 ∧ (∀ q ∈ clsA hs cu c, (0 ≤ q.1 ∧ q.1 ≤ 2) ∧ wellC q.2.1 q.2.2.1 q.2.2.2) ∧ MOK 0 (clsA hs cu c) ∧ (hs c 0 = false → ∀ q ∈ clsA hs cu c, q.1 ≠ 0) := by
  obtain ⟨-, h1, h2⟩ := dk.2 c hc
  obtain ⟨-, -, m3, m4, -, -, -, m8, m9, -⟩ := bits_MT
  have w1 := h2 1 (by decide) h1
  unfold clsA
  by_cases b : hs c 0 = true <;> by_cases d : hs c 2 = true
  all_goals
    first | rw [if_pos b] | rw [if_neg b]
    first | rw [if_pos d] | rw [if_neg d]
  · exact ⟨by decide, fun q hq => by
      rcases List.mem_cons.mp hq with z | z
      · rw [z]; exact ⟨⟨by decide, by decide⟩, h2 0 (by decide) b⟩
      · rcases List.mem_cons.mp z with z | z
        · rw [z]; exact ⟨⟨by decide, by decide⟩, w1⟩
        · rw [List.mem_singleton.mp z]; exact ⟨⟨by decide, by decide⟩, h2 2 (by decide) d⟩, MOK_keys _ _ 0 rfl m8, fun z => by rw [b] at z; cases z⟩
  · exact ⟨by decide, fun q hq => by
      rcases List.mem_cons.mp hq with z | z
      · rw [z]; exact ⟨⟨by decide, by decide⟩, h2 0 (by decide) b⟩
      · rw [List.mem_singleton.mp z]; exact ⟨⟨by decide, by decide⟩, w1⟩, MOK_keys _ _ 0 rfl m9, fun z => by rw [b] at z; cases z⟩
  · exact ⟨by decide, fun q hq => by
      rcases List.mem_cons.mp hq with z | z
      · rw [z]; exact ⟨⟨by decide, by decide⟩, w1⟩
      · rw [List.mem_singleton.mp z]; exact ⟨⟨by decide, by decide⟩, h2 2 (by decide) d⟩, MOK_keys _ _ 0 rfl m3, fun _ q hq => by
      rcases List.mem_cons.mp hq with z | z
      · rw [z]; show (1 : Int) ≠ 0; decide
      · rw [List.mem_singleton.mp z]; show (2 : Int) ≠ 0; decide⟩
  · exact ⟨by decide, fun q hq => by
      rw [List.mem_singleton.mp hq]; exact ⟨⟨by decide, by decide⟩, w1⟩, MOK_keys _ _ 0 rfl m4, fun _ q hq => by rw [List.mem_singleton.mp hq]; show (1 : Int) ≠ 0; decide⟩
theorem tellOK_of {cls : Nat → List CQ} (dk : DatOK N pr hs cu) (h : ∀ c : Nat, c < N → (cls c).length < 4 ∧ (∀ q ∈ cls c, (0 ≤ q.1 ∧ q.1 ≤ 2) ∧ wellC q.2.1 q.2.2.1 q.2.2.2) ∧ MOK 0 (cls c) ∧ (hs c 0 = false → ∀ q ∈ cls c, q.1 ≠ 0)) : TellOK pr cls N := by
  refine ⟨by have := dk.1; omega, fun c hc => ?_⟩
  obtain ⟨h1, -⟩ := dk.2 c hc
  obtain ⟨g1, g2, g3, -⟩ := h c hc
  refine ⟨?_, g1, g2, g3⟩
  rcases h1 with q | ⟨q1, q2⟩
  · exact Or.inl q
  · exact Or.inr ⟨q1, (h (pr c).toNat (by omega)).2.2.2 q2⟩
theorem okT (dk : DatOK N pr hs cu) : TellOK pr (clsT hs cu) N := tellOK_of dk (fun _ hc => clsT_ok dk hc)
theorem okA (dk : DatOK N pr hs cu) : TellOK pr (clsA hs cu) N := tellOK_of dk (fun _ hc => clsA_ok dk hc)
/-- of three curves in any order: the slot has what was put there -/
def SlotP (δ' δ : PL) (b x : Int) (on : Bool) (q : Int × Int × Int) : Prop := (on = true → δ' 6 (b + x) = q.1 ∧ δ' 7 (b + x) = q.2.1 ∧ δ' 8 (b + x) = q.2.2) ∧ (on = false → ∀ k, δ' k (b + x) = δ k (b + x))
theorem putD_3 {δ : PL} {b x a1 a2 a3 : Int} : putD δ (b + x) a1 a2 a3 6 (b + x) = a1 ∧ putD δ (b + x) a1 a2 a3 7 (b + x) = a2 ∧ putD δ (b + x) a1 a2 a3 8 (b + x) = a3 := putD_s
theorem planD_of {cls : Nat → List CQ} (dk : DatOK N pr hs cu) (ok : TellOK pr cls N) (hsl : ∀ (c : Nat) (δ : PL), c < N → δ 6 (3 * (c : Int) + 1) = 10 → δ 7 (3 * (c : Int) + 1) = 0 → δ 8 (3 * (c : Int) + 1) = 10 → δ 8 (3 * (c : Int)) = 0 → δ 8 (3 * (c : Int) + 2) = 0 → ∀ k : Nat, k < 3 → (hs c k = true → putL (3 * (c : Int)) (cls c) δ 6 (3 * (c : Int) + (k : Int)) = (cu c k).1 ∧ putL (3 * (c : Int)) (cls c) δ 7 (3 * (c : Int) + (k : Int)) = (cu c k).2.1 ∧ putL (3 * (c : Int)) (cls c) δ 8 (3 * (c : Int) + (k : Int)) = (cu c k).2.2) ∧ (hs c k = false → putL (3 * (c : Int)) (cls c) δ 8 (3 * (c : Int) + (k : Int)) = 0)) : PlanD (foldC pr cls N) N pr hs cu := by
  refine ⟨(fold_0 pr cls N).1, (fold_0 pr cls N).2, fun c hc => fold_1 pr cls N c hc, fun c k hc hk => ?_⟩
  have f6 := fold_at ok c N hc (Nat.le_refl N) 6 (k : Int) (by decide) (by omega) (by omega)
  have f7 := fold_at ok c N hc (Nat.le_refl N) 7 (k : Int) (by decide) (by omega) (by omega)
  have f8 := fold_at ok c N hc (Nat.le_refl N) 8 (k : Int) (by decide) (by omega) (by omega)
  rw [f6, f7, f8]
  have e0 := (fold_0 pr cls c).1
  have s := addC_s (δ := foldC pr cls c) (i := pr c)
  rw [e0] at s
  refine hsl c (addC (foldC pr cls c) (pr c)) hc s.1 s.2.1 s.2.2 ?_ ?_ k hk
  · rw [addC_o (by decide) (by rw [e0]; omega)]
    exact fold_hi ok c (by omega) 8 _ (by decide) (by omega)
  · rw [addC_o (by decide) (by rw [e0]; omega)]
    exact fold_hi ok c (by omega) 8 _ (by decide) (by omega)
theorem k3 {k : Nat} (hk : k < 3) : k = 0 ∨ k = 1 ∨ k = 2 := by omega
theorem planT (dk : DatOK N pr hs cu) : PlanD (foldC pr (clsT hs cu) N) N pr hs cu := by
  refine planD_of dk (okT dk) (fun c δ hc e1 e2 e3 e4 e5 k hk => ?_)
  obtain ⟨-, h1, -⟩ := dk.2 c hc
  have n01 : (3 * (c : Int) + 0) ≠ 3 * (c : Int) + 1 := by omega
  have n02 : (3 * (c : Int) + 0) ≠ 3 * (c : Int) + 2 := by omega
  have n12 : (3 * (c : Int) + 1) ≠ 3 * (c : Int) + 2 := by omega
  have e4' : δ 8 (3 * (c : Int) + 0) = 0 := by rw [Int.add_zero]; exact e4
  unfold clsT
  by_cases a : cu c 1 = (10, 0, 10) <;> by_cases b : hs c 0 = true <;> by_cases d : hs c 2 = true
  all_goals
    first | rw [if_pos a] | rw [if_neg a]
    first | rw [if_pos b] | rw [if_neg b]
    first | rw [if_pos d] | rw [if_neg d]
    rcases k3 hk with rfl | rfl | rfl
  all_goals
    refine ⟨fun z => ?_, fun z => ?_⟩
  all_goals
    first
    | exact absurd z (by simp [b])
    | exact absurd z (by simp [d])
    | exact absurd z (by simp [h1])
    | (show putL _ ([] ++ _) δ 6 (3 * (c : Int) + 1) = _ ∧ _ ∧ _
       simp only [List.nil_append, List.append_nil, List.cons_append, putL, a, putD_o n01.symm, putD_o n12, e1, e2, e3]
       exact ⟨trivial, trivial, trivial⟩)
    | (simp only [List.nil_append, List.append_nil, List.cons_append, putL]
       first
       | exact putD_3
       | (rw [putD_o n02, putD_o n02, putD_o n02]; exact putD_3)
       | (rw [putD_o n01, putD_o n01, putD_o n01]; exact putD_3)
       | (rw [putD_o n12, putD_o n12, putD_o n12]; exact putD_3)
       | (rw [putD_o n01.symm, putD_o n01.symm, putD_o n01.symm]; exact putD_3)
       | (rw [putD_o n12, putD_o n12, putD_o n12, putD_o n01.symm, putD_o n01.symm, putD_o n01.symm]; exact putD_3)
       | exact e4'
       | exact e5
       | (rw [putD_o n01]; exact e4')
       | (rw [putD_o n02]; exact e4')
       | (rw [putD_o n02, putD_o n01]; exact e4')
       | (rw [putD_o n02.symm]; exact e5)
       | (rw [putD_o n12.symm]; exact e5)
       | (rw [putD_o n02.symm, putD_o n12.symm]; exact e5))
theorem planA (dk : DatOK N pr hs cu) : PlanD (foldC pr (clsA hs cu) N) N pr hs cu := by
  refine planD_of dk (okA dk) (fun c δ hc e1 e2 e3 e4 e5 k hk => ?_)
  obtain ⟨-, h1, -⟩ := dk.2 c hc
  have n01 : (3 * (c : Int) + 0) ≠ 3 * (c : Int) + 1 := by omega
  have n02 : (3 * (c : Int) + 0) ≠ 3 * (c : Int) + 2 := by omega
  have n12 : (3 * (c : Int) + 1) ≠ 3 * (c : Int) + 2 := by omega
  have e4' : δ 8 (3 * (c : Int) + 0) = 0 := by rw [Int.add_zero]; exact e4
  unfold clsA
  by_cases b : hs c 0 = true <;> by_cases d : hs c 2 = true
  all_goals
    first | rw [if_pos b] | rw [if_neg b]
    first | rw [if_pos d] | rw [if_neg d]
    rcases k3 hk with rfl | rfl | rfl
  all_goals
    refine ⟨fun z => ?_, fun z => ?_⟩
  all_goals
    first
    | exact absurd z (by simp [b])
    | exact absurd z (by simp [d])
    | exact absurd z (by simp [h1])
    | (simp only [List.nil_append, List.append_nil, List.cons_append, putL]
       first
       | exact putD_3
       | (rw [putD_o n02, putD_o n02, putD_o n02, putD_o n01, putD_o n01, putD_o n01]; exact putD_3)
       | (rw [putD_o n01, putD_o n01, putD_o n01]; exact putD_3)
       | (rw [putD_o n12, putD_o n12, putD_o n12]; exact putD_3)
       | exact e4'
       | exact e5
       | (rw [putD_o n01]; exact e4')
       | (rw [putD_o n02, putD_o n01]; exact e4')
       | (rw [putD_o n12.symm, putD_o n02.symm]; exact e5)
       | (rw [putD_o n12.symm]; exact e5))
theorem cuT_len (q : CQ) (hq : 0 ≤ q.1 ∧ q.1 ≤ 2) : (cuT q).length ≤ 18 := by
  have := wd_len q.1.toNat (by omega)
  have := c3_len q.2.1 q.2.2.1 q.2.2.2
  unfold cuT
  simp only [List.length_cons, List.length_append]
  omega
theorem flat_len : ∀ (cl : List CQ), (∀ q ∈ cl, 0 ≤ q.1 ∧ q.1 ≤ 2) → (cl.flatMap cuT).length ≤ 18 * cl.length := by
  intro cl
  induction cl with
  | nil => intro _; exact Nat.le_refl _
  | cons q cl ih =>
    intro h
    have h1 := cuT_len q (h q List.mem_cons_self)
    have h2 := ih (fun x hx => h x (List.mem_cons_of_mem _ hx))
    rw [List.flatMap_cons, List.length_append, List.length_cons]
    omega
theorem clT_len {i : Int} {cl : List CQ} (h : ∀ q ∈ cl, 0 ≤ q.1 ∧ q.1 ≤ 2) (hl : cl.length < 4) : (clT i cl).length ≤ 70 := by
  have h1 := flat_len cl h
  have h2 := wd_len 3 (by decide)
  have h3 := wd_len 5 (by decide)
  have h4 := dg_len i
  unfold clT
  rw [List.length_append, List.length_append, List.length_append]
  have h5 : (if i = 12 then ([] : List Int) else 32 :: (wd 5 ++ 32 :: dg i)).length ≤ 10 := by
    split
    · exact Nat.zero_le _
    · simp only [List.length_cons, List.length_append]
      omega
  have h6 : ([59] : List Int).length = 1 := rfl
  omega
theorem txF_le {cls : Nat → List CQ} (ok : TellOK pr cls N) : ∀ (k c : Nat), c + k ≤ N → (txF pr cls c k).length ≤ 70 * k := by
  intro k
  induction k with
  | zero => intro c _; exact Nat.le_refl _
  | succ k ih =>
    intro c hc
    have o := ok.2 c (by omega)
    show (clT (pr c) (cls c) ++ txF pr cls (c + 1) k).length ≤ _
    rw [List.length_append]
    have h1 := clT_len (i := pr c) (cl := cls c) (fun q hq => (o.2.2.1 q hq).1) o.2.1
    have h2 := ih (c + 1) (by omega)
    omega
end DAT
