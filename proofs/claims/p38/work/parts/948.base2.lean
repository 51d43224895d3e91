/-! an abstract machine's words over the kit's: typed values, the world as one list of cells, the judgement V -/
def strN : Nat := 11
def fldV (G : GG) (f : Int → Int) (k : Nat) (i : Int) (j : Nat) : Value := match kRt k j with
  | none => .int (Int32.ofInt (f j))
  | some r => .ref (G.1 + kAt r.1 (kTo r i))
def cellR (G : GG) (k : Nat) (i : Int) (f : Int → Int) : va_E :=
  if kCls k < 90 then .inr (kCls k, (List.range (kLen k)).map (fldV G f k i)) else
  if kCls k = 99 then .inl (G.2.2.1 0, kLen k, .inl (fun j : Nat => Int32.ofInt (f j))) else
  .inl (G.2.2.1 3, kLen k, .inr (.inr (.inr (.inr (fun j : Nat => some (G.1 + kAt 6 (if i = 3 then 20 + (j : Int) else 60 + (j : Int))))))))
/-- the cells of one BentShares, from G.1 on -/
def mkO (G : GG) (h : HP) : va_W := (List.range nCell).map (fun a => (G.1 + a, cellR G (kiAt a).1 ((kiAt a).2 : Nat) (h (kiAt a).1 ((kiAt a).2 : Nat))))
/-- the second object: its own place, its own kinds (100 further) -/
def Gq (G : GG) : GG := (G.2.2.1 302, (G.2.1, ((fun n => if 399 ≤ n then 0 else G.2.2.1 n), G.2.2.2)))
def shq (h : HP) : HP := fun k => h (k + 100)
/-- the law's own arrays: 3 w, 4 p, 5 cu, 6 flows, 7 virtual, 8 marks, 10 + c cu[c], 20 + 3 c + k cu[c][k]; 300 + x where it lies, 400 + x whether it is there, 500 + x whether cu holds it; 14 how many there are -/
def lnL (G : GG) (x : Nat) : Nat := if x = 3 then 6 else if x = 4 ∨ x = 5 ∨ x = 7 then G.2.2.1 14 else if x = 6 then 0 else if x = 8 then 17 else 3
def cellL (G : GG) (x : Nat) (f : Int → Int) : va_E :=
  if x = 5 then .inl (G.2.2.1 6, lnL G x, .inr (.inr (.inr (.inr (fun j : Nat => some (G.2.2.1 (310 + j))))))) else
  if x = 6 ∨ (10 ≤ x ∧ x < 20) then .inl (G.2.2.1 5, lnL G x, .inr (.inr (.inr (.inr (fun j : Nat => if G.2.2.1 (520 + 3 * (x - 10) + j) = 0 then none else some (G.2.2.1 (320 + 3 * (x - 10) + j))))))) else
  .inl (G.2.2.1 0, lnL G x, .inl (fun j : Nat => Int32.ofInt (f j)))
def idsL (G : GG) : List Nat := (List.range 40).filter (fun x => decide (3 ≤ x) && decide (G.2.2.1 (400 + x) = 1))
def qL (G : GG) (h : HP) : va_W := if G.2.2.1 402 = 1 then mkO (Gq G) (shq h) else []
def arL (G : GG) (h : HP) : va_W := (idsL G).map (fun x => (G.2.2.1 (300 + x), cellL G x (h (200 + x) 0)))
def mkW (G : GG) (h : HP) : va_W := mkO G h ++ (qL G h ++ arL G h)
def tysOf (G : GG) : List (ClassId × FieldType) := [(G.2.2.1 0, .int), (G.2.2.1 3, .object "BentShares$Line"), (G.2.2.1 5, .array .int), (G.2.2.1 6, .array (.array .int))]
theorem mkO_len {G : GG} {h : HP} : (mkO G h).length = nCell := by unfold mkO; rw [List.length_map, List.length_range]
theorem qL_len {G : GG} {h : HP} : (qL G h).length = if G.2.2.1 402 = 1 then nCell else 0 := by
  unfold qL
  split
  · exact mkO_len
  · rfl
theorem mkO_at (G : GG) (h : HP) {k : Nat} {i : Int} (hk : kOk k i = true) : (mkO G h)[kAt k i]? = some (G.1 + kAt k i, cellR G k i (h k i)) := by
  obtain ⟨h0, h1, h2⟩ := kOk_nat hk
  obtain ⟨h3, h4⟩ := kiAt_of h1
  unfold mkO kAt
  rw [List.getElem?_map, List.getElem?_range h3]
  simp only [Option.map_some, h4, h2]
theorem kAt_lt {k : Nat} {i : Int} (hk : kOk k i = true) : kAt k i < nCell := by
  obtain ⟨h0, h1, h2⟩ := kOk_nat hk
  exact (kiAt_of h1).1
theorem mkW_at (G : GG) (h : HP) {k : Nat} {i : Int} (hk : kOk k i = true) : (mkW G h)[kAt k i]? = some (G.1 + kAt k i, cellR G k i (h k i)) := by
  unfold mkW
  rw [List.getElem?_append_left (by rw [mkO_len]; exact kAt_lt hk)]
  exact mkO_at G h hk
theorem mkO_set (G : GG) (h : HP) {k : Nat} {i : Int} (g : Int → Int) (hk : kOk k i = true) : (mkO G h).set (kAt k i) (G.1 + kAt k i, cellR G k i g) = mkO G (upr h k i g) := by
  obtain ⟨h0, h1, h2⟩ := kOk_nat hk
  obtain ⟨h3, h4⟩ := kiAt_of h1
  apply List.ext_getElem?
  intro a
  by_cases ha : kAt k i = a
  · subst ha
    rw [List.getElem?_set_self (by rw [mkO_len]; exact h3), mkO_at G _ hk]
    simp [upr]
  · rw [List.getElem?_set_ne ha]
    unfold mkO
    rw [List.getElem?_map, List.getElem?_map]
    rcases Nat.lt_or_ge a nCell with q | q
    · rw [List.getElem?_range q]
      simp only [Option.map_some]
      obtain ⟨h5, h6⟩ := kAt_of q
      have : upr h k i g (kiAt a).1 ((kiAt a).2 : Nat) = h (kiAt a).1 ((kiAt a).2 : Nat) := by
        unfold upr
        by_cases e1 : (kiAt a).1 = k
        · rw [if_pos e1]
          by_cases e2 : (((kiAt a).2 : Nat) : Int) = i
          · exfalso
            apply ha
            unfold kAt
            rw [← h5, e1, ← e2]
            simp
          · rw [if_neg e2, e1]
        · rw [if_neg e1]
      rw [this]
    · rw [List.getElem?_eq_none (by simpa using q)]
      rfl
theorem kOk_lt {k : Nat} {i : Int} (hk : kOk k i = true) : k < 48 := by
  obtain ⟨h0, h1, h2⟩ := kOk_nat hk
  exact (kOkN_lt h1).1
theorem upr_far {h : HP} {k k' : Nat} {i : Int} {g : Int → Int} (hk : k' ≠ k) : upr h k i g k' = h k' := by unfold upr; rw [if_neg hk]
theorem mkO_far {G : GG} {h h' : HP} (e : ∀ k, k < 48 → h' k = h k) : mkO G h' = mkO G h := by
  unfold mkO
  apply List.map_congr_left
  intro a ha
  have q := kOkN_lt (kAt_of (List.mem_range.mp ha)).2
  rw [e _ q.1]
theorem qL_far {G : GG} {h h' : HP} (e : ∀ k, 100 ≤ k → k < 148 → h' k = h k) : qL G h' = qL G h := by
  unfold qL
  split
  · exact mkO_far (fun k hk => e (k + 100) (by omega) (by omega))
  · rfl
theorem idsL_mem {G : GG} {x : Nat} : x ∈ idsL G ↔ x < 40 ∧ 3 ≤ x ∧ G.2.2.1 (400 + x) = 1 := by
  unfold idsL
  rw [List.mem_filter, List.mem_range, Bool.and_eq_true, decide_eq_true_eq, decide_eq_true_eq]
theorem idsL_nodup (G : GG) : (idsL G).Nodup := List.Nodup.sublist List.filter_sublist List.nodup_range
theorem arL_far {G : GG} {h h' : HP} (e : ∀ k, 203 ≤ k → k < 240 → h' k = h k) : arL G h' = arL G h := by
  unfold arL
  apply List.map_congr_left
  intro x hx
  have := idsL_mem.mp hx
  rw [e (200 + x) (by omega) (by omega)]
theorem mkW_set (G : GG) (h : HP) {k : Nat} {i : Int} (g : Int → Int) (hk : kOk k i = true) : (mkW G h).set (kAt k i) (G.1 + kAt k i, cellR G k i g) = mkW G (upr h k i g) := by
  have k48 := kOk_lt hk
  unfold mkW
  rw [List.set_append_left _ _ (by rw [mkO_len]; exact kAt_lt hk), mkO_set G h g hk, qL_far (h := h) (h' := upr h k i g) (fun k' a b => upr_far (by omega)), arL_far (h := h) (h' := upr h k i g) (fun k' a b => upr_far (by omega))]
theorem app3_get {α : Type} (A B C : List α) (t : Nat) : (A ++ (B ++ C))[A.length + (B.length + t)]? = C[t]? := by
  rw [List.getElem?_append_right (by omega), List.getElem?_append_right (by omega)]
  congr 1
  omega
theorem app3_set {α : Type} (A B C : List α) (t : Nat) (v : α) : (A ++ (B ++ C)).set (A.length + (B.length + t)) v = A ++ (B ++ C.set t v) := by
  rw [List.set_append_right _ _ (by omega), List.set_append_right _ _ (by omega), show A.length + (B.length + t) - A.length - B.length = t by omega]
theorem map_setN {β : Type} {ids : List Nat} (hn : ids.Nodup) {F F' : Nat → β} {j x : Nat} (hj : ids[j]? = some x) (e : ∀ y, y ≠ x → F' y = F y) : (ids.map F).set j (F' x) = ids.map F' := by
  have jl : j < ids.length := (List.getElem?_eq_some_iff.mp hj).1
  apply List.ext_getElem?
  intro a
  by_cases ha : j = a
  · subst ha
    rw [List.getElem?_set_self (by rw [List.length_map]; exact jl), List.getElem?_map, hj]
    rfl
  · rw [List.getElem?_set_ne ha, List.getElem?_map, List.getElem?_map]
    cases ht : ids[a]? with
    | none => rfl
    | some y =>
      have hy : y ≠ x := fun z => by
        subst z
        exact ha ((List.getElem?_inj jl hn).mp (by rw [hj, ht]))
      show some (F y) = some (F' y)
      rw [e y hy]
theorem mkW_law (G : GG) (h : HP) {x : Nat} (h3 : 3 ≤ x) (h4 : x < 40) (he : G.2.2.1 (400 + x) = 1) : ∃ q : Nat, (mkW G h)[q]? = some (G.2.2.1 (300 + x), cellL G x (h (200 + x) 0)) ∧ ∀ g : Int → Int, (mkW G h).set q (G.2.2.1 (300 + x), cellL G x g) = mkW G (upr h (200 + x) 0 g) := by
  obtain ⟨j, hj⟩ := List.getElem?_of_mem (idsL_mem.mpr ⟨h4, h3, he⟩)
  refine ⟨(mkO G h).length + ((qL G h).length + j), ?_, fun g => ?_⟩
  · unfold mkW
    rw [app3_get]
    unfold arL
    rw [List.getElem?_map, hj]
    rfl
  · have f1 : mkO G (upr h (200 + x) 0 g) = mkO G h := mkO_far (fun k hk => upr_far (by omega))
    have f2 : qL G (upr h (200 + x) 0 g) = qL G h := qL_far (fun k a b => upr_far (by omega))
    have f3 : (arL G h).set j (G.2.2.1 (300 + x), cellL G x g) = arL G (upr h (200 + x) 0 g) := by
      have e1 : upr h (200 + x) 0 g (200 + x) 0 = g := by
        unfold upr
        rw [if_pos rfl]
        show (if (0 : Int) = 0 then g else _) = g
        rw [if_pos rfl]
      have := map_setN (idsL_nodup G) (F := fun x => (G.2.2.1 (300 + x), cellL G x (h (200 + x) 0))) (F' := fun y => (G.2.2.1 (300 + y), cellL G y (upr h (200 + x) 0 g (200 + y) 0))) hj (fun y hy => by
        show (_, cellL G y (upr h (200 + x) 0 g (200 + y) 0)) = (_, cellL G y (h (200 + y) 0))
        rw [upr_far (by omega)])
      rw [e1] at this
      exact this
    unfold mkW
    rw [app3_set, f1, f2, f3]
def va_Aof (G : GG) : Nat → Prop := fun q => G.1 ≤ q ∧ (G.2.2.1 399 = 1 ∨ q < G.1 + nCell)
theorem mkO_key {G : GG} {h : HP} {i : Nat} {p : Nat × va_E} (hp : (mkO G h)[i]? = some p) : p.1 = G.1 + i ∧ i < nCell := by
  unfold mkO at hp
  rw [List.getElem?_map] at hp
  rcases Nat.lt_or_ge i nCell with q | q
  · rw [List.getElem?_range q] at hp
    simp only [Option.map_some, Option.some.injEq] at hp
    rw [← hp]
    exact ⟨rfl, q⟩
  · rw [List.getElem?_eq_none (by simpa using q)] at hp
    cases hp
/-- an object alone -/
def clsG (G : GG) : Prop := ∀ n : Nat, 400 ≤ n → n < 440 → G.2.2.1 n = 0
theorem clsG.mk {G : GG} (hc : clsG G) (h : HP) : mkW G h = mkO G h := by
  have e1 : qL G h = [] := by unfold qL; rw [hc 402 (by decide) (by decide)]; rfl
  have e2 : idsL G = [] := by
    apply List.eq_nil_iff_forall_not_mem.mpr
    intro x hx
    have := idsL_mem.mp hx
    have z := hc (400 + x) (by omega) (by omega)
    omega
  unfold mkW arL
  rw [e1, e2]
  show mkO G h ++ ([] ++ []) = _
  rw [List.append_nil, List.append_nil]
theorem clsG.D {G : GG} (hc : clsG G) (h : HP) : va_D (va_Aof G) (mkW G h) := by
  rw [hc.mk h]
  refine ⟨fun i j p q hp hq e => ?_, fun k q hq => ?_⟩
  · have h1 := mkO_key hp
    have h2 := mkO_key hq
    omega
  · have h1 := mkO_key hq
    show G.1 ≤ q.1 ∧ (G.2.2.1 399 = 1 ∨ q.1 < G.1 + nCell)
    omega
/-- a typed value as the machine has it: 0 int, 1 nothing known, 2 long, 3 the script, 4 null, 5 an exception, 6 a text, 10 + k a cell of kind k -/
def cv (G : GG) (q : TV) : Value := match q.1 with
  | 0 => .int (Int32.ofInt q.2)
  | 1 => .null
  | 2 => .long (Int64.ofInt q.2)
  | 3 => if q.2 = 0 then .ref (G.2.2.1 10) else if G.2.2.1 (400 + q.2.toNat) = 0 then .null else .ref (G.2.2.1 (300 + q.2.toNat))
  | 4 => .null
  | 5 => .ref q.2.toNat
  | 6 => .ref (G.2.2.1 (20 + q.2.toNat))
  | 7 => .ref (G.2.2.1 (40 + q.2.toNat))
  | 8 => if G.2.2.1 13 = 0 then .null else .ref (G.2.2.1 12)
  | 9 => .null
  | k + 10 => .ref (G.1 + kAt k q.2)
theorem cv_cat (G : GG) (q : TV) (h : q.1 ≠ 2) : (cv G q).category = 1 := by
  obtain ⟨t, x⟩ := q
  match t, h with
  | 0, _ => rfl
  | 1, _ => rfl
  | 2, h => exact absurd rfl h
  | 3, _ => show (if x = 0 then Value.ref (G.2.2.1 10) else if G.2.2.1 (400 + x.toNat) = 0 then Value.null else Value.ref (G.2.2.1 (300 + x.toNat))).category = 1; split; rfl; split <;> rfl
  | 4, _ => rfl
  | 5, _ => rfl
  | 6, _ => rfl
  | 7, _ => rfl
  | 8, _ => show (if G.2.2.1 13 = 0 then Value.null else Value.ref (G.2.2.1 12)).category = 1; split <;> rfl
  | 9, _ => rfl
  | k + 10, _ => rfl
def okT (q : TV) : Prop := match q.1 with
  | 0 => True
  | 1 => True
  | 2 => True
  | 3 => True
  | 4 => True
  | 5 => True
  | 6 => 0 ≤ q.2 ∧ q.2 < strN
  | 7 => 0 ≤ q.2 ∧ q.2 < strN
  | 8 => True
  | 9 => True
  | k + 10 => kOk k q.2 = true
def okS : List TV → Prop
  | [] => True
  | q :: l => okT q ∧ okS l
theorem okS_at : ∀ {l : List TV} (_ : okS l) {i : Nat} {q : TV}, l[i]? = some q → okT q := by
  intro l
  induction l with
  | nil => intro _ i q h; simp at h
  | cons a l ih =>
    intro h i q hq
    match i, hq with
    | 0, hq => rw [List.getElem?_cons_zero] at hq; cases hq; exact h.1
    | i + 1, hq => rw [List.getElem?_cons_succ] at hq; exact ih h.2 hq
theorem okS_set : ∀ {l : List TV} (_ : okS l) (i : Nat) {q : TV}, okT q → okS (l.set i q) := by
  intro l
  induction l with
  | nil => intro _ i q h; exact trivial
  | cons a l ih =>
    intro h i q hq
    match i with
    | 0 => exact ⟨hq, h.2⟩
    | i + 1 => exact ⟨h.1, ih h.2 i hq⟩
theorem okS_app : ∀ {a b : List TV}, okS (a ++ b) ↔ okS a ∧ okS b := by
  intro a
  induction a with
  | nil => intro b; exact ⟨fun h => ⟨trivial, h⟩, fun h => h.2⟩
  | cons x a ih =>
    intro b
    refine ⟨fun h => ⟨⟨h.1, (ih.mp h.2).1⟩, (ih.mp h.2).2⟩, fun h => ⟨h.1.1, ih.mpr ⟨h.1.2, h.2⟩⟩⟩
theorem okS_rev : ∀ {a : List TV}, okS a.reverse ↔ okS a := by
  intro a
  induction a with
  | nil => exact Iff.rfl
  | cons x a ih =>
    rw [List.reverse_cons, okS_app]
    exact ⟨fun h => ⟨h.2.1, ih.mp h.1⟩, fun h => ⟨ih.mpr h.2, h.1, trivial⟩⟩
def LR (G : GG) (nL : Nat) (ls : Array Slot) (lo : List TV) : Prop := ls.size = nL ∧ lv_wf ls ∧ ∀ (i : Nat) (q : TV), lo[i]? = some q → q.1 ≠ 1 → q.1 ≠ 2 ∧ ls[i]? = some (.val (cv G q))
def lvl (G : GG) : Nat → List TV → List (Nat × Value)
  | _, [] => []
  | n, q :: l => if q.1 = 1 then lvl G (n + 1) l else (n, cv G q) :: lvl G (n + 1) l
theorem lvl_mem (G : GG) : ∀ (l : List TV) (n i : Nat) (q : TV), l[i]? = some q → q.1 ≠ 1 → (n + i, cv G q) ∈ lvl G n l := by
  intro l
  induction l with
  | nil => intro n i q h; simp at h
  | cons a l ih =>
    intro n i q h hq
    match i, h with
    | 0, h =>
      rw [List.getElem?_cons_zero] at h
      cases h
      unfold lvl
      rw [if_neg hq]
      exact List.mem_cons_self
    | i + 1, h =>
      rw [List.getElem?_cons_succ] at h
      have := ih (n + 1) i q h hq
      rw [show n + (i + 1) = n + 1 + i by omega]
      unfold lvl
      split
      · exact this
      · exact List.mem_cons_of_mem _ this
theorem lvl_of (G : GG) : ∀ (l : List TV) (n : Nat) (p : Nat × Value), p ∈ lvl G n l → ∃ (i : Nat) (q : TV), l[i]? = some q ∧ q.1 ≠ 1 ∧ p = (n + i, cv G q) := by
  intro l
  induction l with
  | nil => intro n p h; cases h
  | cons a l ih =>
    intro n p h
    unfold lvl at h
    split at h
    · obtain ⟨i, q, h1, h2, h3⟩ := ih (n + 1) p h
      exact ⟨i + 1, q, by simpa using h1, h2, by rw [h3]; congr 1; omega⟩
    · rename_i ha
      rcases List.mem_cons.mp h with h | h
      · exact ⟨0, a, rfl, ha, h⟩
      · obtain ⟨i, q, h1, h2, h3⟩ := ih (n + 1) p h
        exact ⟨i + 1, q, by simpa using h1, h2, by rw [h3]; congr 1; omega⟩
theorem LR.has {G : GG} {nL : Nat} {ls : Array Slot} {lo : List TV} (h : LR G nL ls lo) : lv_has ls nL (lvl G 0 lo) := by
  refine ⟨h.1, h.2.1, fun p hp => ?_⟩
  obtain ⟨i, q, h1, h2, rfl⟩ := lvl_of G lo 0 p hp
  show ls[0 + i]? = some (.val (cv G q))
  rw [Nat.zero_add]
  exact (h.2.2 i q h1 h2).2
theorem LR.set {G : GG} {nL : Nat} {ls : Array Slot} {lo : List TV} (h : LR G nL ls lo) {i : Nat} {q : TV} (hq : q.1 ≠ 2) {ls' : Array Slot}
    (h' : lv_has ls' nL ((i, cv G q) :: (lvl G 0 lo).filter (fun q => !(q.1 == i) && !(q.1 + 1 == i && q.2.category == 2)))) : LR G nL ls' (lo.set i q) := by
  refine ⟨h'.1, h'.2.1, fun j r hr h1 => ?_⟩
  rw [List.getElem?_set] at hr
  split at hr
  · rename_i hij
    subst hij
    split at hr
    · cases hr
      exact ⟨hq, h'.2.2 (i, cv G q) List.mem_cons_self⟩
    · cases hr
  · rename_i hij
    have h2 := h.2.2 j r hr h1
    refine ⟨h2.1, h'.2.2 (j, cv G r) (List.mem_cons_of_mem _ (List.mem_filter.mpr ⟨?_, ?_⟩))⟩
    · have := lvl_mem G lo 0 j r hr h1
      rwa [Nat.zero_add] at this
    · have hc := cv_cat G r h2.1
      have hj : (j == i) = false := by simpa using fun e => hij e.symm
      simp [hj, hc]
theorem lv_args_at : ∀ (vs : List Value) (n i : Nat) (v : Value), (∀ w ∈ vs, w.category = 1) → vs[i]? = some v → (n + i, v) ∈ lv_args n vs := by
  intro vs
  induction vs with
  | nil => intro n i v _ h; simp at h
  | cons a vs ih =>
    intro n i v hc h
    have ha : a.category = 1 := hc a List.mem_cons_self
    unfold lv_args
    rw [if_neg (by rw [ha]; decide)]
    match i, h with
    | 0, h => rw [List.getElem?_cons_zero] at h; cases h; exact List.mem_cons_self
    | i + 1, h =>
      rw [List.getElem?_cons_succ] at h
      have := ih (n + 1) i v (fun w hw => hc w (List.mem_cons_of_mem _ hw)) h
      rw [show n + (i + 1) = n + 1 + i by omega]
      exact List.mem_cons_of_mem _ this
theorem lg_sl_len : ∀ (vs : List Value), (∀ w ∈ vs, w.category = 1) → (lg_sl vs).length = vs.length := by
  intro vs
  induction vs with
  | nil => intro _; rfl
  | cons a vs ih =>
    intro hc
    have ha : a.category = 1 := hc a List.mem_cons_self
    show ((if a.category = 2 then [Slot.val a, Slot.second] else [Slot.val a]) ++ lg_sl vs).length = (a :: vs).length
    rw [if_neg (by rw [ha]; decide), List.length_append, ih (fun w hw => hc w (List.mem_cons_of_mem _ hw)), List.length_cons]
    simp
    omega
theorem LR.entry {G : GG} {nL : Nat} {as : List TV} (h2 : ∀ q ∈ as, q.1 ≠ 1 ∧ q.1 ≠ 2) (hn : as.length ≤ nL) :
    LR G nL ((lg_sl (as.map (cv G)) ++ List.replicate (nL - (lg_sl (as.map (cv G))).length) Slot.unset).toArray) (as ++ List.replicate (nL - as.length) (1, 0)) := by
  have hc : ∀ w ∈ as.map (cv G), w.category = 1 := by
    intro w hw
    obtain ⟨q, hq, rfl⟩ := List.mem_map.mp hw
    exact cv_cat G q (h2 q hq).2
  have hlen : (lg_sl (as.map (cv G))).length ≤ nL := by rw [lg_sl_len _ hc, List.length_map]; exact hn
  obtain ⟨e1, e2, e3⟩ := lv_entry (as.map (cv G)) hlen
  refine ⟨e1, e2, fun i q hi hq => ?_⟩
  rcases Nat.lt_or_ge i as.length with z | z
  · rw [List.getElem?_append_left z] at hi
    have hm : q ∈ as := List.mem_of_getElem? hi
    refine ⟨(h2 q hm).2, e3 (i, cv G q) ?_⟩
    have := lv_args_at (as.map (cv G)) 0 i (cv G q) hc (by rw [List.getElem?_map, hi]; rfl)
    rwa [Nat.zero_add] at this
  · rw [List.getElem?_append_right z] at hi
    have := List.mem_of_getElem? hi
    rw [List.mem_replicate] at this
    exact absurd (by rw [this.2]) hq
