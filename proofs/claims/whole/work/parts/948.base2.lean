/-! an abstract machine's words over the kit's: typed values, the world as one list of cells, the judgement V -/
def strN : Nat := 12
def fldV (G : GG) (f : Int → Int) (k : Nat) (i : Int) (j : Nat) : Value := match kRt k j with
  | none => .int (Int32.ofInt (f j))
  | some r => .ref (G.1 + kAt r.1 (kTo r i))
def cellR (G : GG) (k : Nat) (i : Int) (f : Int → Int) : va_E :=
  if kCls k < 90 then .inr (kCls k, (List.range (kLen k)).map (fldV G f k i)) else
  if kCls k = 99 then .inl (G.2.2.1 0, kLen k, .inl (fun j : Nat => Int32.ofInt (f j))) else
  if kCls k = 98 then .inl (G.2.2.1 1, kLen k, .inl (fun j : Nat => Int32.ofInt (f j))) else
  if kCls k = 97 then .inl (G.2.2.1 2, kLen k, .inr (.inl (fun j : Nat => Int64.ofInt (f j)))) else
  if kCls k = 96 then .inl (G.2.2.1 3, kLen k, .inr (.inr (.inr (.inr (fun j : Nat => some (G.1 + kAt 6 (if i = 3 then 20 + (j : Int) else 60 + (j : Int)))))))) else
  .inl (G.2.2.1 4, kLen k, .inr (.inr (.inr (.inr (fun j : Nat => some (G.2.2.1 (20 + j)))))))
def mkW (G : GG) (h : HP) : va_W := (List.range nCell).map (fun a => (G.1 + a, cellR G (kiAt a).1 ((kiAt a).2 : Nat) (h (kiAt a).1 ((kiAt a).2 : Nat))))
def tysOf (G : GG) : List (ClassId × FieldType) := [(G.2.2.1 0, .int), (G.2.2.1 1, .boolean), (G.2.2.1 2, .long), (G.2.2.1 3, .object "BentShares$Line"), (G.2.2.1 4, .object "java/lang/String")]
theorem mkW_at (G : GG) (h : HP) {k : Nat} {i : Int} (hk : kOk k i = true) : (mkW G h)[kAt k i]? = some (G.1 + kAt k i, cellR G k i (h k i)) := by
  obtain ⟨h0, h1, h2⟩ := kOk_nat hk
  obtain ⟨h3, h4⟩ := kiAt_of h1
  unfold mkW kAt
  rw [List.getElem?_map, List.getElem?_range h3]
  simp only [Option.map_some, h4, h2]
theorem mkW_set (G : GG) (h : HP) {k : Nat} {i : Int} (g : Int → Int) (hk : kOk k i = true) : (mkW G h).set (kAt k i) (G.1 + kAt k i, cellR G k i g) = mkW G (upr h k i g) := by
  obtain ⟨h0, h1, h2⟩ := kOk_nat hk
  obtain ⟨h3, h4⟩ := kiAt_of h1
  apply List.ext_getElem?
  intro a
  by_cases ha : kAt k i = a
  · subst ha
    rw [List.getElem?_set_self (by unfold mkW kAt; simpa using h3), mkW_at G _ hk]
    simp [upr]
  · rw [List.getElem?_set_ne ha]
    unfold mkW
    rw [List.getElem?_map, List.getElem?_map]
    rcases Nat.lt_or_ge a nCell with q | q
    · rw [List.getElem?_range q]
      simp only [Option.map_some]
      obtain ⟨h5, h6⟩ := kAt_of q
      have : upr h k i g (kiAt a).1 ((kiAt a).2 : Nat) = h (kiAt a).1 ((kiAt a).2 : Nat) := by
        unfold upr
        by_cases e1 : (kiAt a).1 = k
        · rw [if_pos e1]
          by_cases e2 : (((kiAt a).2 : Nat) : Int) = i
          · exfalso
            apply ha
            unfold kAt
            rw [← h5, e1, ← e2]
            simp
          · rw [if_neg e2, e1]
        · rw [if_neg e1]
      rw [this]
    · rw [List.getElem?_eq_none (by simpa using q)]
      rfl
def va_Aof (G : GG) : Nat → Prop := fun q => G.1 ≤ q
theorem mkW_D (G : GG) (h : HP) : va_D (va_Aof G) (mkW G h) := by
  have key : ∀ (i : Nat) (p : Nat × va_E), (mkW G h)[i]? = some p → p.1 = G.1 + i := by
    intro i p hp
    unfold mkW at hp
    rw [List.getElem?_map] at hp
    rcases Nat.lt_or_ge i nCell with q | q
    · rw [List.getElem?_range q] at hp
      simp only [Option.map_some, Option.some.injEq] at hp
      rw [← hp]
    · rw [List.getElem?_eq_none (by simpa using q)] at hp
      cases hp
  refine ⟨fun i j p q hp hq e => ?_, fun k q hq => ?_⟩
  · have h1 := key i p hp
    have h2 := key j q hq
    omega
  · have h1 := key k q hq
    show G.1 ≤ q.1
    omega
/-- a typed value as the machine has it: 0 int, 1 nothing known, 2 long, 3 the script, 4 null, 5 an exception, 6 a text, 10 + k a cell of kind k -/
def cv (G : GG) (q : TV) : Value := match q.1 with
  | 0 => .int (Int32.ofInt q.2)
  | 1 => .null
  | 2 => .long (Int64.ofInt q.2)
  | 3 => .ref (G.2.2.1 10)
  | 4 => .null
  | 5 => .ref q.2.toNat
  | 6 => .ref (G.2.2.1 (20 + q.2.toNat))
  | 7 => .ref (G.2.2.1 (40 + q.2.toNat))
  | 8 => if G.2.2.1 13 = 0 then .null else .ref (G.2.2.1 12)
  | 9 => .null
  | k + 10 => .ref (G.1 + kAt k q.2)
theorem cv_cat (G : GG) (q : TV) (h : q.1 ≠ 2) : (cv G q).category = 1 := by
  obtain ⟨t, x⟩ := q
  match t, h with
  | 0, _ => rfl
  | 1, _ => rfl
  | 2, h => exact absurd rfl h
  | 3, _ => rfl
  | 4, _ => rfl
  | 5, _ => rfl
  | 6, _ => rfl
  | 7, _ => rfl
  | 8, _ => show (if G.2.2.1 13 = 0 then Value.null else Value.ref (G.2.2.1 12)).category = 1; split <;> rfl
  | 9, _ => rfl
  | k + 10, _ => rfl
def okT (q : TV) : Prop := match q.1 with
  | 0 => True
  | 1 => True
  | 2 => True
  | 3 => True
  | 4 => True
  | 5 => True
  | 6 => 0 ≤ q.2 ∧ q.2 < strN
  | 7 => 0 ≤ q.2 ∧ q.2 < strN
  | 8 => True
  | 9 => True
  | k + 10 => kOk k q.2 = true
def okS : List TV → Prop
  | [] => True
  | q :: l => okT q ∧ okS l
theorem okS_at : ∀ {l : List TV} (_ : okS l) {i : Nat} {q : TV}, l[i]? = some q → okT q := by
  intro l
  induction l with
  | nil => intro _ i q h; simp at h
  | cons a l ih =>
    intro h i q hq
    match i, hq with
    | 0, hq => rw [List.getElem?_cons_zero] at hq; cases hq; exact h.1
    | i + 1, hq => rw [List.getElem?_cons_succ] at hq; exact ih h.2 hq
theorem okS_set : ∀ {l : List TV} (_ : okS l) (i : Nat) {q : TV}, okT q → okS (l.set i q) := by
  intro l
  induction l with
  | nil => intro _ i q h; exact trivial
  | cons a l ih =>
    intro h i q hq
    match i with
    | 0 => exact ⟨hq, h.2⟩
    | i + 1 => exact ⟨h.1, ih h.2 i hq⟩
theorem okS_app : ∀ {a b : List TV}, okS (a ++ b) ↔ okS a ∧ okS b := by
  intro a
  induction a with
  | nil => intro b; exact ⟨fun h => ⟨trivial, h⟩, fun h => h.2⟩
  | cons x a ih =>
    intro b
    refine ⟨fun h => ⟨⟨h.1, (ih.mp h.2).1⟩, (ih.mp h.2).2⟩, fun h => ⟨h.1.1, ih.mpr ⟨h.1.2, h.2⟩⟩⟩
theorem okS_rev : ∀ {a : List TV}, okS a.reverse ↔ okS a := by
  intro a
  induction a with
  | nil => exact Iff.rfl
  | cons x a ih =>
    rw [List.reverse_cons, okS_app]
    exact ⟨fun h => ⟨h.2.1, ih.mp h.1⟩, fun h => ⟨ih.mpr h.2, h.1, trivial⟩⟩
def LR (G : GG) (nL : Nat) (ls : Array Slot) (lo : List TV) : Prop := ls.size = nL ∧ lv_wf ls ∧ ∀ (i : Nat) (q : TV), lo[i]? = some q → q.1 ≠ 1 → q.1 ≠ 2 ∧ ls[i]? = some (.val (cv G q))
def lvl (G : GG) : Nat → List TV → List (Nat × Value)
  | _, [] => []
  | n, q :: l => if q.1 = 1 then lvl G (n + 1) l else (n, cv G q) :: lvl G (n + 1) l
theorem lvl_mem (G : GG) : ∀ (l : List TV) (n i : Nat) (q : TV), l[i]? = some q → q.1 ≠ 1 → (n + i, cv G q) ∈ lvl G n l := by
  intro l
  induction l with
  | nil => intro n i q h; simp at h
  | cons a l ih =>
    intro n i q h hq
    match i, h with
    | 0, h =>
      rw [List.getElem?_cons_zero] at h
      cases h
      unfold lvl
      rw [if_neg hq]
      exact List.mem_cons_self
    | i + 1, h =>
      rw [List.getElem?_cons_succ] at h
      have := ih (n + 1) i q h hq
      rw [show n + (i + 1) = n + 1 + i by omega]
      unfold lvl
      split
      · exact this
      · exact List.mem_cons_of_mem _ this
theorem lvl_of (G : GG) : ∀ (l : List TV) (n : Nat) (p : Nat × Value), p ∈ lvl G n l → ∃ (i : Nat) (q : TV), l[i]? = some q ∧ q.1 ≠ 1 ∧ p = (n + i, cv G q) := by
  intro l
  induction l with
  | nil => intro n p h; cases h
  | cons a l ih =>
    intro n p h
    unfold lvl at h
    split at h
    · obtain ⟨i, q, h1, h2, h3⟩ := ih (n + 1) p h
      exact ⟨i + 1, q, by simpa using h1, h2, by rw [h3]; congr 1; omega⟩
    · rename_i ha
      rcases List.mem_cons.mp h with h | h
      · exact ⟨0, a, rfl, ha, h⟩
      · obtain ⟨i, q, h1, h2, h3⟩ := ih (n + 1) p h
        exact ⟨i + 1, q, by simpa using h1, h2, by rw [h3]; congr 1; omega⟩
theorem LR.has {G : GG} {nL : Nat} {ls : Array Slot} {lo : List TV} (h : LR G nL ls lo) : lv_has ls nL (lvl G 0 lo) := by
  refine ⟨h.1, h.2.1, fun p hp => ?_⟩
  obtain ⟨i, q, h1, h2, rfl⟩ := lvl_of G lo 0 p hp
  show ls[0 + i]? = some (.val (cv G q))
  rw [Nat.zero_add]
  exact (h.2.2 i q h1 h2).2
theorem LR.set {G : GG} {nL : Nat} {ls : Array Slot} {lo : List TV} (h : LR G nL ls lo) {i : Nat} {q : TV} (hq : q.1 ≠ 2) {ls' : Array Slot}
    (h' : lv_has ls' nL ((i, cv G q) :: (lvl G 0 lo).filter (fun q => !(q.1 == i) && !(q.1 + 1 == i && q.2.category == 2)))) : LR G nL ls' (lo.set i q) := by
  refine ⟨h'.1, h'.2.1, fun j r hr h1 => ?_⟩
  rw [List.getElem?_set] at hr
  split at hr
  · rename_i hij
    subst hij
    split at hr
    · cases hr
      exact ⟨hq, h'.2.2 (i, cv G q) List.mem_cons_self⟩
    · cases hr
  · rename_i hij
    have h2 := h.2.2 j r hr h1
    refine ⟨h2.1, h'.2.2 (j, cv G r) (List.mem_cons_of_mem _ (List.mem_filter.mpr ⟨?_, ?_⟩))⟩
    · have := lvl_mem G lo 0 j r hr h1
      rwa [Nat.zero_add] at this
    · have hc := cv_cat G r h2.1
      have hj : (j == i) = false := by simpa using fun e => hij e.symm
      simp [hj, hc]
theorem lv_args_at : ∀ (vs : List Value) (n i : Nat) (v : Value), (∀ w ∈ vs, w.category = 1) → vs[i]? = some v → (n + i, v) ∈ lv_args n vs := by
  intro vs
  induction vs with
  | nil => intro n i v _ h; simp at h
  | cons a vs ih =>
    intro n i v hc h
    have ha : a.category = 1 := hc a List.mem_cons_self
    unfold lv_args
    rw [if_neg (by rw [ha]; decide)]
    match i, h with
    | 0, h => rw [List.getElem?_cons_zero] at h; cases h; exact List.mem_cons_self
    | i + 1, h =>
      rw [List.getElem?_cons_succ] at h
      have := ih (n + 1) i v (fun w hw => hc w (List.mem_cons_of_mem _ hw)) h
      rw [show n + (i + 1) = n + 1 + i by omega]
      exact List.mem_cons_of_mem _ this
theorem lg_sl_len : ∀ (vs : List Value), (∀ w ∈ vs, w.category = 1) → (lg_sl vs).length = vs.length := by
  intro vs
  induction vs with
  | nil => intro _; rfl
  | cons a vs ih =>
    intro hc
    have ha : a.category = 1 := hc a List.mem_cons_self
    show ((if a.category = 2 then [Slot.val a, Slot.second] else [Slot.val a]) ++ lg_sl vs).length = (a :: vs).length
    rw [if_neg (by rw [ha]; decide), List.length_append, ih (fun w hw => hc w (List.mem_cons_of_mem _ hw)), List.length_cons]
    simp
    omega
theorem LR.entry {G : GG} {nL : Nat} {as : List TV} (h2 : ∀ q ∈ as, q.1 ≠ 1 ∧ q.1 ≠ 2) (hn : as.length ≤ nL) :
    LR G nL ((lg_sl (as.map (cv G)) ++ List.replicate (nL - (lg_sl (as.map (cv G))).length) Slot.unset).toArray) (as ++ List.replicate (nL - as.length) (1, 0)) := by
  have hc : ∀ w ∈ as.map (cv G), w.category = 1 := by
    intro w hw
    obtain ⟨q, hq, rfl⟩ := List.mem_map.mp hw
    exact cv_cat G q (h2 q hq).2
  have hlen : (lg_sl (as.map (cv G))).length ≤ nL := by rw [lg_sl_len _ hc, List.length_map]; exact hn
  obtain ⟨e1, e2, e3⟩ := lv_entry (as.map (cv G)) hlen
  refine ⟨e1, e2, fun i q hi hq => ?_⟩
  rcases Nat.lt_or_ge i as.length with z | z
  · rw [List.getElem?_append_left z] at hi
    have hm : q ∈ as := List.mem_of_getElem? hi
    refine ⟨(h2 q hm).2, e3 (i, cv G q) ?_⟩
    have := lv_args_at (as.map (cv G)) 0 i (cv G q) hc (by rw [List.getElem?_map, hi]; rfl)
    rwa [Nat.zero_add] at this
  · rw [List.getElem?_append_right z] at hi
    have := List.mem_of_getElem? hi
    rw [List.mem_replicate] at this
    exact absurd (by rw [this.2]) hq
