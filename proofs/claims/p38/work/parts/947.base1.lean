def tblG : List Cond := lw_tbl.filter goodWord
abbrev TV : Type := Nat × Int
abbrev GG : Type := Nat × (va_G × ((Nat → Nat) × (Nat → Int32)))
def kRtL : List (List (Option (Nat × Option Int))) := [[some (8, some 1), some (6, some 10), some (6, some 12), none], [some (13, none), some (14, none), some (15, none), some (16, none), some (17, none), some (18, none), some (19, none)], [some (8, some 1), some (6, some 10), some (6, some 12), some (20, none)], [some (8, some 1), some (6, some 10), none, none], [some (8, some 1), some (6, some 10), some (6, some 12), some (7, some 5), none, none, some (21, none), some (22, none)], [some (23, none), none, none], [some (8, some 1), none, none, none, none, none, none, some (24, none), some (25, none), some (26, none), some (27, none), some (28, none), some (29, none), some (30, none), some (31, none), some (32, none), some (1, none), some (33, none)], [none, some (34, none), some (35, none), some (36, none)], [none, none, some (37, none), some (38, none), some (39, none), some (40, none), some (41, none), some (42, none), some (43, none), some (1, none)], [some (45, some 0), some (8, some 2), none, none, none, none, none], [some (44, none), none], [some (45, none), none, none, some (46, none), some (8, some 1), some (8, some 2), some (9, some 0), some (6, some 10), some (5, some 3), some (7, some 5), none, some (6, some 11), some (5, some 4), some (7, some 6), some (47, none), some (6, some 12), some (3, some 0), some (2, some 0), some (4, some 0), some (0, some 0), some (10, some 0)], [], [], [], [], [], [], [], [], [], [], [], [], [], [], [], [], [], [], [], [], [], [], [], [], [], [], [], [], [], [], [], [], [], [], [], []]
def kRt (k j : Nat) : Option (Nat × Option Int) := (kRtL.getD k []).getD j none
def kTo (r : Nat × Option Int) (i : Int) : Int := match r.2 with | none => i | some c => c
def kZL : List (List Nat) := [[], [], [], [], [], [], [], [], [], [], [], [10], [], [], [], [], [], [], [], [], [], [], [], [], [], [], [], [], [], [], [], [], [], [], [], [], [], [], [], [], [], [], [], [], [], [], [], []]
def offLine : List Nat := [0, 10, 0, 0, 0, 0, 0, 0, 0, 0, 0, 0, 0, 11, 12, 13, 14, 15, 16, 17, 0, 0, 0, 0, 1, 2, 3, 4, 5, 6, 7, 8, 9, 18, 0, 0, 0, 0, 0, 0, 0, 0, 0, 0, 0, 0, 0, 0]
def offPlan : List Nat := [0, 8, 0, 0, 0, 0, 0, 0, 0, 0, 0, 0, 0, 9, 10, 11, 12, 13, 14, 15, 0, 0, 0, 0, 0, 0, 0, 0, 0, 0, 0, 0, 0, 0, 0, 0, 0, 1, 2, 3, 4, 5, 6, 7, 0, 0, 0, 0]
def offHist : List Nat := [0, 0, 0, 0, 0, 0, 0, 0, 0, 0, 0, 0, 0, 0, 0, 0, 0, 0, 0, 0, 0, 0, 0, 1, 0, 0, 0, 0, 0, 0, 0, 0, 0, 0, 0, 0, 0, 0, 0, 0, 0, 0, 0, 0, 0, 0, 0, 0]
def offNotes : List Nat := [0, 0, 0, 0, 0, 0, 0, 0, 0, 0, 0, 0, 0, 0, 0, 0, 0, 0, 0, 0, 0, 0, 0, 0, 0, 0, 0, 0, 0, 0, 0, 0, 0, 0, 1, 2, 3, 0, 0, 0, 0, 0, 0, 0, 0, 0, 0, 0]
def abs0 : List Nat := [1632, 0, 1627, 1626, 1629, 0, 0, 0, 0, 35, 1633, 0, 0, 0, 0, 0, 0, 0, 0, 0, 1628, 1630, 1631, 0, 0, 0, 0, 0, 0, 0, 0, 0, 0, 0, 0, 0, 0, 0, 0, 0, 0, 0, 0, 0, 1634, 1, 2, 1606]
def okLine : List Nat := [0, 1, 0, 0, 0, 0, 1, 0, 0, 0, 0, 0, 0, 1, 1, 1, 1, 1, 1, 1, 0, 0, 0, 0, 1, 1, 1, 1, 1, 1, 1, 1, 1, 1, 0, 0, 0, 0, 0, 0, 0, 0, 0, 0, 0, 0, 0, 0]
def okPlan : List Nat := [0, 1, 0, 0, 0, 0, 0, 0, 1, 0, 0, 0, 0, 1, 1, 1, 1, 1, 1, 1, 0, 0, 0, 0, 0, 0, 0, 0, 0, 0, 0, 0, 0, 0, 0, 0, 0, 1, 1, 1, 1, 1, 1, 1, 0, 0, 0, 0]
def okHist : List Nat := [0, 0, 0, 0, 0, 1, 0, 0, 0, 0, 0, 0, 0, 0, 0, 0, 0, 0, 0, 0, 0, 0, 0, 1, 0, 0, 0, 0, 0, 0, 0, 0, 0, 0, 0, 0, 0, 0, 0, 0, 0, 0, 0, 0, 0, 0, 0, 0]
def okNotes : List Nat := [0, 0, 0, 0, 0, 0, 0, 1, 0, 0, 0, 0, 0, 0, 0, 0, 0, 0, 0, 0, 0, 0, 0, 0, 0, 0, 0, 0, 0, 0, 0, 0, 0, 0, 1, 1, 1, 0, 0, 0, 0, 0, 0, 0, 0, 0, 0, 0]
def ok0 : List Nat := [1, 0, 1, 1, 1, 0, 0, 0, 0, 1, 1, 1, 0, 0, 0, 0, 0, 0, 0, 0, 1, 1, 1, 0, 0, 0, 0, 0, 0, 0, 0, 0, 0, 0, 0, 0, 0, 0, 0, 0, 0, 0, 0, 0, 1, 1, 1, 1]
def kAtN (k i : Nat) : Nat := if i < 10 then (match i with | 0 => abs0.getD k 0 | 1 => 3 + offPlan.getD k 0 | 2 => 19 + offPlan.getD k 0 | 3 => 55 + offHist.getD k 0 | 4 => 840 + offHist.getD k 0 | 5 => 817 + offNotes.getD k 0 | 6 => 1602 + offNotes.getD k 0 | _ => 0) else (match i with | 10 => 36 | 11 => 821 | 12 => 1607 | _ => if i < 60 then 57 + 19 * (i - 20) else 842 + 19 * (i - 60)) + offLine.getD k 0
def kOkN (k i : Nat) : Bool := if i < 10 then (match i with | 0 => ok0.getD k 0 == 1 | 1 => okPlan.getD k 0 == 1 | 2 => okPlan.getD k 0 == 1 | 3 => okHist.getD k 0 == 1 | 4 => okHist.getD k 0 == 1 | 5 => okNotes.getD k 0 == 1 | 6 => okNotes.getD k 0 == 1 | _ => false) else okLine.getD k 0 == 1 && (i < 13 || (20 ≤ i && i < 100))
def cel0 : List (Nat × Nat) := [(11, 0), (45, 0), (46, 0), (8, 1), (37, 1), (38, 1), (39, 1), (40, 1), (41, 1), (42, 1), (43, 1), (1, 1), (13, 1), (14, 1), (15, 1), (16, 1), (17, 1), (18, 1), (19, 1), (8, 2), (37, 2), (38, 2), (39, 2), (40, 2), (41, 2), (42, 2), (43, 2), (1, 2), (13, 2), (14, 2), (15, 2), (16, 2), (17, 2), (18, 2), (19, 2), (9, 0), (6, 10), (24, 10), (25, 10), (26, 10), (27, 10), (28, 10), (29, 10), (30, 10), (31, 10), (32, 10), (1, 10), (13, 10), (14, 10), (15, 10), (16, 10), (17, 10), (18, 10), (19, 10), (33, 10), (5, 3), (23, 3)]
def cel1 : List (Nat × Nat) := [(7, 5), (34, 5), (35, 5), (36, 5), (6, 11), (24, 11), (25, 11), (26, 11), (27, 11), (28, 11), (29, 11), (30, 11), (31, 11), (32, 11), (1, 11), (13, 11), (14, 11), (15, 11), (16, 11), (17, 11), (18, 11), (19, 11), (33, 11), (5, 4), (23, 4)]
def cel2 : List (Nat × Nat) := [(7, 6), (34, 6), (35, 6), (36, 6), (47, 0), (6, 12), (24, 12), (25, 12), (26, 12), (27, 12), (28, 12), (29, 12), (30, 12), (31, 12), (32, 12), (1, 12), (13, 12), (14, 12), (15, 12), (16, 12), (17, 12), (18, 12), (19, 12), (33, 12), (3, 0), (2, 0), (20, 0), (4, 0), (21, 0), (22, 0), (0, 0), (10, 0), (44, 0)]
def lineKL : List Nat := [6, 24, 25, 26, 27, 28, 29, 30, 31, 32, 1, 13, 14, 15, 16, 17, 18, 19, 33]
def kiAt (a : Nat) : Nat × Nat := if a < 57 then cel0.getD a (0, 0) else if a < 817 then (lineKL.getD ((a - 57) % 19) 0, 20 + (a - 57) / 19) else if a < 842 then cel1.getD (a - 817) (0, 0) else if a < 1602 then (lineKL.getD ((a - 842) % 19) 0, 60 + (a - 842) / 19) else cel2.getD (a - 1602) (0, 0)
def nCell : Nat := 1635
def kAt (k : Nat) (i : Int) : Nat := kAtN k i.toNat
def kOk (k : Nat) (i : Int) : Bool := decide (0 ≤ i) && kOkN k i.toNat
set_option maxRecDepth 100000 in
theorem kiAt_all : (List.range 48).all (fun k => (List.range 100).all (fun i => !(kOkN k i) || (decide (kAtN k i < nCell) && decide (kiAt (kAtN k i) = (k, i))))) = true := by decide +kernel
set_option maxRecDepth 100000 in
theorem kAt_all : (List.range nCell).all (fun a => decide (kAtN (kiAt a).1 (kiAt a).2 = a) && kOkN (kiAt a).1 (kiAt a).2) = true := by decide +kernel
theorem kOkN_lt {k i : Nat} (h : kOkN k i = true) : k < 48 ∧ i < 100 := by
  unfold kOkN at h
  have aux : ∀ (l : List Nat), l.length ≤ 48 → (l.getD k 0 == 1) = true → k < 48 := by
    intro l hl h1
    rcases Nat.lt_or_ge k 48 with q | q
    · exact q
    · rw [List.getD_eq_getElem?_getD, List.getElem?_eq_none (Nat.le_trans hl q)] at h1
      exact absurd h1 (by decide)
  split at h
  · rename_i hi
    split at h
    all_goals first | exact ⟨aux _ (by decide) h, by omega⟩ | cases h
  · rw [Bool.and_eq_true, Bool.or_eq_true, Bool.and_eq_true] at h
    refine ⟨aux _ (by decide) h.1, ?_⟩
    rcases h.2 with q | ⟨q, r⟩
    · have := of_decide_eq_true q; omega
    · have := of_decide_eq_true r; omega
theorem kiAt_of {k i : Nat} (h : kOkN k i = true) : kAtN k i < nCell ∧ kiAt (kAtN k i) = (k, i) := by
  obtain ⟨hk, hi⟩ := kOkN_lt h
  have h1 := List.all_eq_true.mp (List.all_eq_true.mp kiAt_all k (List.mem_range.mpr hk)) i (List.mem_range.mpr hi)
  rw [h, Bool.not_true, Bool.false_or, Bool.and_eq_true] at h1
  exact ⟨of_decide_eq_true h1.1, of_decide_eq_true h1.2⟩
theorem kAt_of {a : Nat} (h : a < nCell) : kAtN (kiAt a).1 (kiAt a).2 = a ∧ kOkN (kiAt a).1 (kiAt a).2 = true := by
  have h1 := List.all_eq_true.mp kAt_all a (List.mem_range.mpr h)
  rw [Bool.and_eq_true] at h1
  exact ⟨of_decide_eq_true h1.1, h1.2⟩
set_option maxRecDepth 100000 in
theorem kTo_all : (List.range 48).all (fun k => (List.range 100).all (fun i => !(kOkN k i) || (List.range (kRtL.getD k []).length).all (fun j => match kRt k j with | none => true | some r => kOk r.1 (kTo r (i : Int))))) = true := by decide +kernel
theorem kOk_nat {k : Nat} {i : Int} (h : kOk k i = true) : 0 ≤ i ∧ kOkN k i.toNat = true ∧ ((i.toNat : Nat) : Int) = i := by
  unfold kOk at h
  rw [Bool.and_eq_true] at h
  have := of_decide_eq_true h.1
  exact ⟨this, h.2, by omega⟩
theorem kTo_ok {k j : Nat} {i : Int} {r : Nat × Option Int} (h : kOk k i = true) (hr : kRt k j = some r) : kOk r.1 (kTo r i) = true := by
  obtain ⟨h0, h1, h2⟩ := kOk_nat h
  obtain ⟨hk, hi⟩ := kOkN_lt h1
  have h3 := List.all_eq_true.mp (List.all_eq_true.mp kTo_all k (List.mem_range.mpr hk)) i.toNat (List.mem_range.mpr hi)
  rw [h1, Bool.not_true, Bool.false_or] at h3
  have hj : j < (kRtL.getD k []).length := by
    rcases Nat.lt_or_ge j (kRtL.getD k []).length with q | q
    · exact q
    · have : kRt k j = none := by unfold kRt; rw [List.getD_eq_getElem?_getD, List.getElem?_eq_none q]; rfl
      rw [this] at hr; cases hr
  have h4 := List.all_eq_true.mp h3 j (List.mem_range.mpr hj)
  rw [hr, h2] at h4
  exact h4
theorem kOk_kept0 : ∀ j : Nat, j < 40 → kOk 6 (20 + (j : Int)) = true ∧ kOk 6 (60 + (j : Int)) = true := by decide +kernel
