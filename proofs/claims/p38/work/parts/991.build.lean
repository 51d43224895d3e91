/-! a world under construction: cells made so far at consecutive addresses, which slots of references are set -/
abbrev BW : Type := Nat × ((Nat → Nat → Bool) × HP)
def oT : Nat → Bool := fun _ => true
def oset (o : Nat → Nat → Bool) (a : Nat) (f : Nat → Bool) : Nat → Nat → Bool := fun b => if b = a then f else o b
def cellO (G : GG) (o : Nat → Bool) (k : Nat) (i : Int) (f : Int → Int) : va_E :=
  if kCls k < 90 then .inr (kCls k, (List.range (kLen k)).map (fun j => if o j then fldV G f k i j else (match kRt k j with | none => .int (Int32.ofInt (f j)) | some _ => .null))) else
  if kCls k = 96 then .inl (G.2.2.1 3, kLen k, .inr (.inr (.inr (.inr (fun j : Nat => if o j then some (G.1 + kAt 6 (if i = 3 then 20 + (j : Int) else 60 + (j : Int))) else none))))) else
  cellR G k i f
def mkB (G : GG) (w : BW) : va_W := (List.range w.1).map (fun a => (G.1 + a, cellO G (w.2.1 a) (kiAt a).1 ((kiAt a).2 : Nat) (w.2.2 (kiAt a).1 ((kiAt a).2 : Nat))))
def cat (a k : Nat) (i : Int) : Prop := kAt k i = a ∧ kOk k i = true
/-- cells not yet made are 0 and closed -/
def WZ (w : BW) : Prop := (∀ (k : Nat) (i : Int), kOk k i = true → w.1 ≤ kAt k i → ∀ j : Int, w.2.2 k i j = 0) ∧ ∀ a : Nat, w.1 ≤ a → w.2.1 a = oT
theorem kCls_out : ∀ k : Nat, kCls k < 90 ∨ kCls k = 99 ∨ kCls k = 96 ∨ kCls k = 94 := by
  intro k
  have h : ∀ l : List Nat, (∀ x ∈ l, x < 90 ∨ x = 99 ∨ x = 96) → (l.getD k 94 < 90 ∨ l.getD k 94 = 99 ∨ l.getD k 94 = 96 ∨ l.getD k 94 = 94) := by
    intro l hl
    rw [List.getD_eq_getElem?_getD]
    cases hk : l[k]? with
    | none => exact Or.inr (Or.inr (Or.inr rfl))
    | some x => exact (hl x (List.mem_of_getElem? hk)).imp id (fun q => q.imp id Or.inl)
  exact h kClsL (by decide +kernel)
theorem cellO_T {G : GG} {k : Nat} {i : Int} {f : Int → Int} : cellO G oT k i f = cellR G k i f := by
  unfold cellO oT
  simp only [if_true]
  rcases kCls_out k with q | q | q | q
  · rw [if_pos q]; unfold cellR; rw [if_pos q]
  · rw [q]; rfl
  · rw [q, cellR_lines q]; rfl
  · rw [q]; rfl
theorem cellO_arr {G : GG} {o : Nat → Bool} {k : Nat} {i : Int} {f : Int → Int} (h : kCls k = 99) : cellO G o k i f = cellR G k i f := by
  unfold cellO
  rw [if_neg (by omega), if_neg (by omega)]
theorem cellO_obj {G : GG} {o : Nat → Bool} {k : Nat} {i : Int} {f : Int → Int} {ci : Nat} (h : kCls k = ci) (hc : Nat.ble (ci + 1) 90 = true) : cellO G o k i f = .inr (ci, (List.range (kLen k)).map (fun j => if o j then fldV G f k i j else (match kRt k j with | none => .int (Int32.ofInt (f j)) | some _ => .null))) := by
  have := Nat.le_of_ble_eq_true hc
  unfold cellO
  rw [if_pos (by omega), h]
theorem cellO_full {G : GG} {o : Nat → Bool} {k : Nat} {i : Int} {f : Int → Int} (hc : Nat.ble (kCls k + 1) 90 = true) (h : (List.range (kLen k)).all (fun j => o j || (kRt k j).isNone) = true) : cellO G o k i f = cellO G oT k i f := by
  rw [cellO_obj rfl hc, cellO_obj rfl hc]
  congr 2
  apply List.map_congr_left
  intro j hj
  have q := List.all_eq_true.mp h j hj
  unfold oT
  rw [if_pos rfl]
  by_cases e : o j = true
  · rw [if_pos e]
  · rw [if_neg e]
    unfold fldV
    cases hr : kRt k j with
    | none => rfl
    | some r => rw [hr] at q; simp at q; exact absurd q e
theorem mkB_full {G : GG} {o : Nat → Nat → Bool} {h : HP} (ho : ∀ a, o a = oT) : mkB G (nCell, o, h) = mkO G h := by
  unfold mkB mkO
  apply List.map_congr_left
  intro a ha
  show (G.1 + a, cellO G (o a) _ _ _) = _
  rw [ho a, cellO_T]
theorem mkB_len {G : GG} {w : BW} : (mkB G w).length = w.1 := by unfold mkB; rw [List.length_map, List.length_range]
theorem mkB_get {G : GG} {w : BW} {a : Nat} (ha : a < w.1) : (mkB G w)[a]? = some (G.1 + a, cellO G (w.2.1 a) (kiAt a).1 ((kiAt a).2 : Nat) (w.2.2 (kiAt a).1 ((kiAt a).2 : Nat))) := by
  unfold mkB
  rw [List.getElem?_map, List.getElem?_range ha]; rfl
theorem kiAt_cat {a k : Nat} {i : Int} (hc : cat a k i) : (kiAt a).1 = k ∧ (((kiAt a).2 : Nat) : Int) = i := by
  obtain ⟨h1, h2⟩ := hc
  obtain ⟨h3, h4, h5⟩ := kOk_nat h2
  obtain ⟨h6, h7⟩ := kiAt_of h4
  have : kAtN k i.toNat = a := h1
  rw [this] at h7
  rw [h7]
  exact ⟨rfl, h5⟩
theorem mkB_at {G : GG} {w : BW} {a k : Nat} {i : Int} (hc : cat a k i) (ha : a < w.1) : (mkB G w)[a]? = some (G.1 + a, cellO G (w.2.1 a) k i (w.2.2 k i)) := by
  obtain ⟨h1, h2⟩ := kiAt_cat hc
  rw [mkB_get ha, h1, h2]
theorem mkB_eq {G : GG} {w w' : BW} (h0 : w.1 = w'.1) (h : ∀ a, a < w.1 → cellO G (w.2.1 a) (kiAt a).1 ((kiAt a).2 : Nat) (w.2.2 (kiAt a).1 ((kiAt a).2 : Nat)) = cellO G (w'.2.1 a) (kiAt a).1 ((kiAt a).2 : Nat) (w'.2.2 (kiAt a).1 ((kiAt a).2 : Nat))) : mkB G w = mkB G w' := by
  unfold mkB
  rw [← h0]
  apply List.map_congr_left
  intro a ha
  rw [h a (List.mem_range.mp ha)]
theorem mkB_put {G : GG} {w w' : BW} {a k : Nat} {i : Int} {e : va_E} (hc : cat a k i) (h0 : w'.1 = w.1) (he : e = cellO G (w'.2.1 a) k i (w'.2.2 k i)) (h : ∀ b, b < w.1 → b ≠ a → cellO G (w'.2.1 b) (kiAt b).1 ((kiAt b).2 : Nat) (w'.2.2 (kiAt b).1 ((kiAt b).2 : Nat)) = cellO G (w.2.1 b) (kiAt b).1 ((kiAt b).2 : Nat) (w.2.2 (kiAt b).1 ((kiAt b).2 : Nat))) : (mkB G w).set a (G.1 + a, e) = mkB G w' := by
  apply List.ext_getElem?
  intro b
  rcases Nat.lt_or_ge b w.1 with q | q
  · by_cases hb : a = b
    · subst hb
      rw [List.getElem?_set_self (by rw [mkB_len]; exact q), mkB_at hc (by omega), he]
    · rw [List.getElem?_set_ne hb, mkB_get q, mkB_get (by omega), h b q (Ne.symm hb)]
  · rw [List.getElem?_eq_none (by rw [List.length_set, mkB_len]; exact q), List.getElem?_eq_none (by rw [mkB_len]; omega)]
theorem up_off {h : HP} {a k b : Nat} {i j x : Int} (hc : cat a k i) (hb : b < nCell) (hne : b ≠ a) : up h k i j x (kiAt b).1 ((kiAt b).2 : Nat) = h (kiAt b).1 ((kiAt b).2 : Nat) := by
  obtain ⟨h5, h6⟩ := kAt_of hb
  unfold up upr
  by_cases e1 : (kiAt b).1 = k
  · rw [if_pos e1]
    by_cases e2 : (((kiAt b).2 : Nat) : Int) = i
    · exfalso
      apply hne
      rw [← hc.1, ← h5, e1, ← e2]
      rfl
    · rw [if_neg e2, e1]
  · rw [if_neg e1]
theorem mkB_D (G : GG) (w : BW) (hfl : G.2.2.1 399 = 1 := by assumption) : va_D (va_Aof G) (mkB G w) := by
  have key : ∀ (i : Nat) (p : Nat × va_E), (mkB G w)[i]? = some p → p.1 = G.1 + i := by
    intro i p hp
    rcases Nat.lt_or_ge i w.1 with q | q
    · rw [mkB_get q] at hp
      cases hp
      rfl
    · rw [List.getElem?_eq_none (by rw [mkB_len]; exact q)] at hp
      cases hp
  refine ⟨fun i j p q hp hq e => ?_, fun k q hq => ?_⟩
  · have h1 := key i p hp
    have h2 := key j q hq
    omega
  · have h1 := key k q hq
    exact ⟨by omega, Or.inl hfl⟩
theorem mkB_new {G : GG} {w : BW} {k : Nat} {i : Int} {o' : Nat → Nat → Bool} (hc : cat w.1 k i) (ho : ∀ a, a < w.1 → o' a = w.2.1 a) : mkB G (w.1 + 1, o', w.2.2) = mkB G w ++ [(G.1 + w.1, cellO G (o' w.1) k i (w.2.2 k i))] := by
  obtain ⟨h1, h2⟩ := kiAt_cat hc
  unfold mkB
  show (List.range (w.1 + 1)).map _ = _
  rw [List.range_succ, List.map_append]
  congr 1
  · apply List.map_congr_left
    intro a ha
    show (G.1 + a, cellO G (o' a) _ _ _) = _
    rw [ho a (List.mem_range.mp ha)]
  · show [(G.1 + w.1, cellO G (o' w.1) (kiAt w.1).1 ((kiAt w.1).2 : Nat) (w.2.2 (kiAt w.1).1 ((kiAt w.1).2 : Nat)))] = _
    rw [h1, h2]
def VB (G : GG) (p : Program) (l : Launch) (e : Jvm.Env) (R : Room) (s : State) (m : MethodId) (args : Array Value) (below : List Frame) (meth : Method) (c : Code) (Q : State → Prop) (nL pc : Nat) (lo st : List TV) (w : BW) (n n2 : Nat) : Prop :=
  okS lo → okS st → s.heap.size + n = G.1 + w.1 → WZ w → ∀ (H : Heap) (L : List Loc) (ls : Array Slot), LR G nL ls lo → va_P G.2.1 vwCl (mkB G w) H → va_S (va_Aof G) s.heap H L → W p l e R s m args below meth c H L n n2 Q (F0 m pc ls (st.map (cv G)))
theorem W.szK {p : Program} {l : Launch} {e : Jvm.Env} {R : Room} {s : State} {m : MethodId} {args : Array Value} {below : List Frame} {meth : Method} {c : Code} {Q : State → Prop} {H : Heap} {L : List Loc} {n n2 : Nat} {g : JFrame}
    (k : H.size ≤ s.heap.size + n → W p l e R s m args below meth c H L n n2 Q g) : W p l e R s m args below meth c H L n n2 Q g := by
  intro T hT X
  have := X.heapSize
  rw [hT] at this
  exact k this T hT X
theorem mkB_size {G : GG} {w : BW} {H : Heap} {A : Nat → Prop} {s : State} {L : List Loc} {n : Nat} (hP : va_P G.2.1 vwCl (mkB G w) H) (hS : va_S A s.heap H L) (hE : G.1 ≤ s.heap.size) (hz : s.heap.size + n = G.1 + w.1) (hu : H.size ≤ s.heap.size + n) : H.size = G.1 + w.1 := by
  rcases Nat.eq_zero_or_pos w.1 with q | q
  · have := hS.1
    omega
  · have h1 : (mkB G w)[w.1 - 1]? = some _ := mkB_get (by omega)
    have := (hP _ _ h1).lt
    have h3 : G.1 + (w.1 - 1) < H.size := this
    omega
section VBR
variable {G : GG} {p : Program} {l : Launch} {e : Jvm.Env} {R : Room} {s : State} {m : MethodId} {args : Array Value} {below : List Frame} {meth : Method} {c : Code} {Q : State → Prop} {own : String} {cc : ByteArray} {nL d pc : Nat} {lo st : List TV} {w : BW} {n n2 : Nat}
theorem VB.aload_n (hc : VC G p R s m args meth c own cc nL d) {k : Fin 4} {i t : Nat} {x : Int} (hd : decode cc pc = .ok (.aload_n k, 1)) (hi : (k : Nat) = i) (hl : lo[i]? = some (t + 10, x))
    (k1 : VB G p l e R s m args below meth c Q nL (pc + 1) lo ((t + 10, x) :: st) w n n2) : VB G p l e R s m args below meth c Q nL pc lo st w n n2 := by
  intro ho hs hz hw H L ls hL hP hS
  exact lv_aload_n hc.1 hc.2.1 hd hi (hL.2.2 i _ hl (by show t + 10 ≠ 1; omega)).2 (k1 ho ⟨okS_at ho hl, hs⟩ hz hw H L ls hL hP hS)
theorem VB.aload (hc : VC G p R s m args meth c own cc nL d) {i t : Nat} {x : Int} (hd : decode cc pc = .ok (.aload i, 2)) (hl : lo[i]? = some (t + 10, x))
    (k1 : VB G p l e R s m args below meth c Q nL (pc + 2) lo ((t + 10, x) :: st) w n n2) : VB G p l e R s m args below meth c Q nL pc lo st w n n2 := by
  intro ho hs hz hw H L ls hL hP hS
  exact lv_aload hc.1 hc.2.1 hd (hL.2.2 i _ hl (by show t + 10 ≠ 1; omega)).2 (k1 ho ⟨okS_at ho hl, hs⟩ hz hw H L ls hL hP hS)
theorem VB.iload_n (hc : VC G p R s m args meth c own cc nL d) {k : Fin 4} {i : Nat} {x : Int} (hd : decode cc pc = .ok (.iload_n k, 1)) (hi : (k : Nat) = i) (hl : lo[i]? = some (0, x))
    (k1 : VB G p l e R s m args below meth c Q nL (pc + 1) lo ((0, x) :: st) w n n2) : VB G p l e R s m args below meth c Q nL pc lo st w n n2 := by
  intro ho hs hz hw H L ls hL hP hS
  exact lv_iload_n hc.1 hc.2.1 hd hi (hL.2.2 i _ hl (by show (0 : Nat) ≠ 1; omega)).2 (k1 ho ⟨trivial, hs⟩ hz hw H L ls hL hP hS)
theorem VB.istore_n (hc : VC G p R s m args meth c own cc nL d) {k : Fin 4} {i : Nat} {x : Int} {lo' : List TV} (hd : decode cc pc = .ok (.istore_n k, 1)) (hi : (k : Nat) = i) (hn : Nat.ble (i + 1) nL = true) (hl : lo.set i (0, x) = lo')
    (k1 : VB G p l e R s m args below meth c Q nL (pc + 1) lo' st w n n2) : VB G p l e R s m args below meth c Q nL pc lo ((0, x) :: st) w n n2 := by
  intro ho hs hz hw H L ls hL hP hS
  subst hl
  exact lv_istore_n hc.1 hc.2.1 hd hi hL.has (Nat.le_of_ble_eq_true hn) rfl (fun ls' h' => k1 (okS_set ho i trivial) hs.2 hz hw H L ls' (hL.set (q := (0, x)) (by show (0 : Nat) ≠ 2; omega) h') hP hS)
theorem VB.istore (hc : VC G p R s m args meth c own cc nL d) {i : Nat} {x : Int} {lo' : List TV} (hd : decode cc pc = .ok (.istore i, 2)) (hn : Nat.ble (i + 1) nL = true) (hl : lo.set i (0, x) = lo')
    (k1 : VB G p l e R s m args below meth c Q nL (pc + 2) lo' st w n n2) : VB G p l e R s m args below meth c Q nL pc lo ((0, x) :: st) w n n2 := by
  intro ho hs hz hw H L ls hL hP hS
  subst hl
  exact lv_istore hc.1 hc.2.1 hd hL.has (Nat.le_of_ble_eq_true hn) rfl (fun ls' h' => k1 (okS_set ho i trivial) hs.2 hz hw H L ls' (hL.set (q := (0, x)) (by show (0 : Nat) ≠ 2; omega) h') hP hS)
theorem VB.astore_n (hc : VC G p R s m args meth c own cc nL d) {k : Fin 4} {i t : Nat} {x : Int} {lo' : List TV} (hd : decode cc pc = .ok (.astore_n k, 1)) (hi : (k : Nat) = i) (hn : Nat.ble (i + 1) nL = true) (hl : lo.set i (t + 10, x) = lo')
    (k1 : VB G p l e R s m args below meth c Q nL (pc + 1) lo' st w n n2) : VB G p l e R s m args below meth c Q nL pc lo ((t + 10, x) :: st) w n n2 := by
  intro ho hs hz hw H L ls hL hP hS
  subst hl
  exact lv_astore_n hc.1 hc.2.1 hd hi hL.has (Nat.le_of_ble_eq_true hn) rfl (fun ls' h' => k1 (okS_set ho i hs.1) hs.2 hz hw H L ls' (hL.set (q := (t + 10, x)) (by show t + 10 ≠ 2; omega) h') hP hS)
theorem VB.iinc (hc : VC G p R s m args meth c own cc nL d) {i : Nat} {x y : Int} {lo' : List TV} (hd : decode cc pc = .ok (.iinc i y, 3)) (hn : Nat.ble (i + 1) nL = true) (hx : lo[i]? = some (0, x)) (hl : lo.set i (0, x + y) = lo')
    (k1 : VB G p l e R s m args below meth c Q nL (pc + 3) lo' st w n n2) : VB G p l e R s m args below meth c Q nL pc lo st w n n2 := by
  intro ho hs hz hw H L ls hL hP hS
  subst hl
  have hm := lvl_mem G lo 0 i (0, x) hx (by show (0 : Nat) ≠ 1; omega)
  rw [Nat.zero_add] at hm
  obtain ⟨k, hk⟩ := List.getElem?_of_mem hm
  exact lv_iinc hc.1 hc.2.1 hd hL.has hk (v := Int32.ofInt (x + y)) (by rw [Int32.ofInt_add]) (Nat.le_of_ble_eq_true hn) rfl (fun ls' h' => k1 (okS_set ho i trivial) hs hz hw H L ls' (hL.set (q := (0, x + y)) (by show (0 : Nat) ≠ 2; omega) h') hP hS)
theorem VB.iconst (hc : VC G p R s m args meth c own cc nL d) {x : Int} (hd : decode cc pc = .ok (.iconst x, 1))
    (k1 : VB G p l e R s m args below meth c Q nL (pc + 1) lo ((0, x) :: st) w n n2) : VB G p l e R s m args below meth c Q nL pc lo st w n n2 := by
  intro ho hs hz hw H L ls hL hP hS
  exact lv_iconst hc.1 hc.2.1 hd rfl (k1 ho ⟨trivial, hs⟩ hz hw H L ls hL hP hS)
theorem VB.bipush (hc : VC G p R s m args meth c own cc nL d) {x : Int} (hd : decode cc pc = .ok (.bipush x, 2)) (hx : (Int8.ofInt x).toInt32 = Int32.ofInt x)
    (k1 : VB G p l e R s m args below meth c Q nL (pc + 2) lo ((0, x) :: st) w n n2) : VB G p l e R s m args below meth c Q nL pc lo st w n n2 := by
  intro ho hs hz hw H L ls hL hP hS
  exact lv_bipush hc.1 hc.2.1 hd hx (k1 ho ⟨trivial, hs⟩ hz hw H L ls hL hP hS)
theorem VB.sipush (hc : VC G p R s m args meth c own cc nL d) {x : Int} (hd : decode cc pc = .ok (.sipush x, 3)) (hx : (Int16.ofInt x).toInt32 = Int32.ofInt x)
    (k1 : VB G p l e R s m args below meth c Q nL (pc + 3) lo ((0, x) :: st) w n n2) : VB G p l e R s m args below meth c Q nL pc lo st w n n2 := by
  intro ho hs hz hw H L ls hL hP hS
  exact lv_sipush hc.1 hc.2.1 hd hx (k1 ho ⟨trivial, hs⟩ hz hw H L ls hL hP hS)
theorem VB.ldc (hc : VC G p R s m args meth c own cc nL d) {x : Int} {idx : Nat} (hk : Cond.constant own idx (Int32.ofInt x) ∈ tblG) (hd : decode cc pc = .ok (.ldc idx, 2))
    (k1 : VB G p l e R s m args below meth c Q nL (pc + 2) lo ((0, x) :: st) w n n2) : VB G p l e R s m args below meth c Q nL pc lo st w n n2 := by
  intro ho hs hz hw H L ls hL hP hS
  exact lv_ldc hc.1 hc.2.1 hc.2.2.2.1 (hc.2.2.2.2.1 _ hk) hd (k1 ho ⟨trivial, hs⟩ hz hw H L ls hL hP hS)
theorem VB.goto (hc : VC G p R s m args meth c own cc nL d) {off : Int} {tgt : Nat} (hd : decode cc pc = .ok (.goto off, 3)) (ht : (pc : Int) + off = (tgt : Int))
    (k1 : VB G p l e R s m args below meth c Q nL tgt lo st w n n2) : VB G p l e R s m args below meth c Q nL pc lo st w n n2 := by
  intro ho hs hz hw H L ls hL hP hS
  exact lv_goto hc.1 hc.2.1 hd ht (k1 ho hs hz hw H L ls hL hP hS)
theorem VB.dup (hc : VC G p R s m args meth c own cc nL d) {q : TV} (hd : decode cc pc = .ok (.dup, 1)) (hq : q.1 ≠ 2)
    (k1 : VB G p l e R s m args below meth c Q nL (pc + 1) lo (q :: q :: st) w n n2) : VB G p l e R s m args below meth c Q nL pc lo (q :: st) w n n2 := by
  intro ho hs hz hw H L ls hL hP hS
  exact lv_dup hc.1 hc.2.1 hd (cv_cat G q hq) (k1 ho ⟨hs.1, hs⟩ hz hw H L ls hL hP hS)
theorem VB.icmp_ge (hc : VC G p R s m args meth c own cc nL d) {x y : Int} {off : Int} {tgt : Nat} (hd : decode cc pc = .ok (.if_icmp .ge off, 3)) (ht : (pc : Int) + off = (tgt : Int)) (hx : inR x) (hy : inR y)
    (k1 : y ≤ x → VB G p l e R s m args below meth c Q nL tgt lo st w n n2) (k2 : ¬ y ≤ x → VB G p l e R s m args below meth c Q nL (pc + 3) lo st w n n2) : VB G p l e R s m args below meth c Q nL pc lo ((0, y) :: (0, x) :: st) w n n2 := by
  intro ho hs hz hw H L ls hL hP hS
  exact lv_icmp_ge hc.1 hc.2.1 hd ht (fun q => k1 ((ofInt_le hy hx).mp q) ho hs.2.2 hz hw H L ls hL hP hS) (fun q => k2 (fun z => q ((ofInt_le hy hx).mpr z)) ho hs.2.2 hz hw H L ls hL hP hS)
theorem VB.ldcS (hc : VC G p R s m args meth c own cc nL d) {idx j : Nat} {jj : Int} (hq : (own, idx, j) ∈ ldcT) (hj : Nat.ble (j + 1) strN = true) (hjj : ((j : Nat) : Int) = jj) (hd : decode cc pc = .ok (.ldc idx, 2))
    (k1 : VB G p l e R s m args below meth c Q nL (pc + 2) lo ((6, jj) :: st) w n n2) : VB G p l e R s m args below meth c Q nL pc lo st w n n2 := by
  intro ho hs hz hw H L ls hL hP hS
  subst hjj
  obtain ⟨e1, e2, e3, e4, e5, ⟨f1, f2, f3, f4, f5, f6, f7, f8, f9⟩, e7⟩ := hc
  have hj1 := Nat.le_of_ble_eq_true hj
  obtain ⟨tx, f8⟩ := f8 _ hq
  exact va_ldcS e1 e2 e4 f8 hd (k1 ho ⟨⟨by omega, by omega⟩, hs⟩ hz hw H L ls hL hP hS)
theorem vb_addr {G : GG} {w : BW} {H1 : Heap} {q n : Nat} {E : va_E} {s : State} (hP : va_P G.2.1 vwCl (mkB G w ++ [(q, E)]) H1) (hD : va_D (va_Aof G) (mkB G w ++ [(q, E)])) (hu : H1.size ≤ s.heap.size + (n + 1)) (hz : s.heap.size + n = G.1 + w.1) : q = G.1 + w.1 := by
  have hg : (mkB G w ++ [(q, E)])[w.1]? = some (q, E) := by
    rw [List.getElem?_append_right (by rw [mkB_len]; exact Nat.le_refl _), mkB_len, Nat.sub_self]; rfl
  have h1 : q < H1.size := (hP _ _ hg).lt
  have h2 : G.1 ≤ q := (hD.2 _ _ hg).1
  rcases Nat.lt_or_ge q (G.1 + w.1) with h3 | h3
  · exfalso
    have h4 : (mkB G w ++ [(q, E)])[q - G.1]? = _ := (List.getElem?_append_left (by rw [mkB_len]; omega)).trans (mkB_get (by omega))
    have := hD.1 _ _ _ _ h4 hg (by show G.1 + (q - G.1) = q; omega)
    omega
  · omega
theorem WZ.new {M : Nat} {o : Nat → Nat → Bool} {h : HP} (hw : WZ (M, (o, h))) (f : Nat → Bool) : WZ (M + 1, (oset o M f, h)) := by
  refine ⟨fun k i hk hle j => hw.1 k i hk (by have : M + 1 ≤ kAt k i := hle; show M ≤ kAt k i; omega) j, fun a ha => ?_⟩
  have ha' : M + 1 ≤ a := ha
  show oset o M f a = oT
  unfold oset
  rw [if_neg (by omega)]
  exact hw.2 a (by show M ≤ a; omega)
theorem WZ.newa {M : Nat} {o : Nat → Nat → Bool} {h : HP} (hw : WZ (M, (o, h))) : WZ (M + 1, (o, h)) :=
  ⟨fun k i hk hle j => hw.1 k i hk (by have : M + 1 ≤ kAt k i := hle; show M ≤ kAt k i; omega) j, fun a ha => hw.2 a (by have : M + 1 ≤ a := ha; show M ≤ a; omega)⟩
theorem WZ.u1 {M : Nat} {o : Nat → Nat → Bool} {h : HP} (hw : WZ (M, (o, h))) {k a : Nat} {i j x : Int} (hc : cat a k i) (ha : a < M) : WZ (M, (o, up h k i j x)) := by
  refine ⟨fun k' i' hk hle j' => ?_, hw.2⟩
  have hle' : M ≤ kAt k' i' := hle
  show up h k i j x k' i' j' = 0
  unfold up upr
  by_cases e1 : k' = k
  · rw [if_pos e1]
    by_cases e2 : i' = i
    · exfalso
      rw [e1, e2, hc.1] at hle'
      omega
    · rw [if_neg e2, e1.symm]
      exact hw.1 k' i' hk hle j'
  · rw [if_neg e1]
    exact hw.1 k' i' hk hle j'
theorem WZ.os {M : Nat} {o : Nat → Nat → Bool} {h : HP} (hw : WZ (M, (o, h))) {a : Nat} (ha : a < M) (f : Nat → Bool) : WZ (M, (oset o a f, h)) := by
  refine ⟨hw.1, fun b hb => ?_⟩
  have hb' : M ≤ b := hb
  show oset o a f b = oT
  unfold oset
  rw [if_neg (by omega)]
  exact hw.2 b hb
variable {M : Nat} {o : Nat → Nat → Bool} {h : HP}
theorem cv_cat' {G : GG} {a k : Nat} {i : Int} (hc : cat a k i) : cv G (k + 10, i) = .ref (G.1 + a) := by
  show Value.ref (G.1 + kAt k i) = _
  rw [hc.1]
theorem VB.new (hc : VC G p R s m args meth c own cc nL d) {idx ci k N : Nat} {i : Int} {C : String} {T : u_T} (ty0 : Nat → FieldType) (h1 : vwCl[ci]? = some (C, T, N)) (h2 : ∀ w ∈ u_ws C T N, w ∈ tblG) (h3 : ∀ k, k < N → parseFieldDescriptor (T k).2.2.1 = some (ty0 k)) (h4 : Cond.classLink own idx C ∈ tblG) (h5 : Cond.instantiable C N ∈ tblG) (h6 : Cond.initialized C ∈ tblG) (hk : kCls k = ci) (hci : Nat.ble (ci + 1) 90 = true) (hN : kLen k = N) (hdef : ∀ j, j < N → defaultValue (ty0 j) = (match kRt k j with | none => Value.int 0 | some _ => Value.null)) (hcat : cat M k i) (hn : n + 1 ≤ R.cells ∧ n2 + N ≤ R.slots) (hd : decode cc pc = .ok (.new idx, 3))
    (k1 : o M = oT → (∀ j, h k i j = 0) → VB G p l e R s m args below meth c Q nL (pc + 3) lo ((k + 10, i) :: st) (M + 1, (oset o M (fun _ => false), h)) (n + 1) (n2 + N)) (hfl : G.2.2.1 399 = 1 := by assumption) : VB G p l e R s m args below meth c Q nL pc lo st (M, (o, h)) n n2 := by
  intro ho hs hz hw H L ls hL hP hS
  obtain ⟨e1, e2, e3, e4, e5, e6, -⟩ := hc
  have z0 : ∀ j, h k i j = 0 := hw.1 k i hcat.2 (by show M ≤ kAt k i; rw [hcat.1]; exact Nat.le_refl _)
  have hE : G.1 ≤ s.heap.size := e6.2.2.2.2.2.2.2.2.1
  refine va_new (ci := ci) (fs := (List.range N).map (fun j => match kRt k j with | none => Value.int 0 | some _ => Value.null)) e1 e2 e5 h2 ty0 h3 e4 (e5 _ h4) (e5 _ h5) (e5 _ h6) e6.1 hP (mkB_D G (M, (o, h))) hS (fun q hq => ⟨by omega, Or.inl hfl⟩) h1 (fun j hj => ?_) hn.1 hn.2 hd (fun q H1 hP1 hD1 hS1 => ?_)
  · rw [hdef j hj]
    unfold vp_V
    rw [List.getD_eq_getElem?_getD, List.getElem?_map, List.getElem?_range hj]
    rfl
  refine W.szK (fun hu => ?_)
  have hq := vb_addr hP1 hD1 hu hz
  subst hq
  have hP2 : va_P G.2.1 vwCl (mkB G (M + 1, (oset o M (fun _ => false), h))) H1 := by
    have hx := mkB_new (G := G) (w := (M, (o, h))) (o' := oset o M (fun _ => false)) hcat (fun a ha => by have : a < M := ha; unfold oset; rw [if_neg (by omega)])
    have hy : cellO G (oset o M (fun _ => false) M) k i (h k i) = .inr (ci, (List.range N).map (fun j => match kRt k j with | none => Value.int 0 | some _ => Value.null)) := by
      rw [cellO_obj hk hci, hN]
      congr 2
      apply List.map_congr_left
      intro j hj
      unfold oset
      rw [if_pos rfl, if_neg (by decide)]
      cases kRt k j with
      | none => show Value.int (Int32.ofInt (h k i j)) = _; rw [z0]; rfl
      | some r => rfl
    change mkB G (M + 1, (oset o M (fun _ => false), h)) = mkB G (M, (o, h)) ++ [(G.1 + M, cellO G (oset o M (fun _ => false) M) k i (h k i))] at hx
    rw [hx, hy]
    exact hP1
  have k2 := k1 (hw.2 M (Nat.le_refl _)) z0 ho ⟨hcat.2, hs⟩ (by show s.heap.size + (n + 1) = G.1 + (M + 1); have : s.heap.size + n = G.1 + M := hz; omega) (hw.new _) H1 L ls hL hP2 hS1
  rw [List.map_cons, cv_cat' (G := G) hcat] at k2
  exact k2
theorem VB.newaI (hc : VC G p R s m args meth c own cc nL d) {k N : Nat} {i x : Int} (hA : Cond.arrayClass (newarray.typeOf .int) ∈ tblG) (hk : kCls k = 99) (hN : kLen k = N) (hx : ((N : Nat) : Int) = x) (hb : Nat.ble (N * 4) 536870912 = true) (hcat : cat M k i) (hn : n + 1 ≤ R.cells ∧ n2 + N ≤ R.slots) (hd : decode cc pc = .ok (.newarray .int, 2))
    (k1 : VB G p l e R s m args below meth c Q nL (pc + 2) lo ((k + 10, i) :: st) (M + 1, (o, h)) (n + 1) (n2 + N)) (hfl : G.2.2.1 399 = 1 := by assumption) : VB G p l e R s m args below meth c Q nL pc lo ((0, x) :: st) (M, (o, h)) n n2 := by
  intro ho hs hz hw H L ls hL hP hS
  obtain ⟨e1, e2, e3, e4, e5, e6, -⟩ := hc
  have z0 : ∀ j, h k i j = 0 := hw.1 k i hcat.2 (by show M ≤ kAt k i; rw [hcat.1]; exact Nat.le_refl _)
  have hE : G.1 ≤ s.heap.size := e6.2.2.2.2.2.2.2.2.1
  have hb' := Nat.le_of_ble_eq_true hb
  subst hx
  refine va_newa (ty := .int) (N' := N) (a0 := (N, .inl (fun j : Nat => Int32.ofInt (h k i j)))) e1 e2 (e5 _ hA) rfl e6.1 hP (mkB_D G (M, (o, h))) hS (fun q hq => ⟨by omega, Or.inl hfl⟩) (fun cA => ?_) (fun q => ?_) (ofInt_clamp (by omega) (by omega)) hb' hn.1 hn.2 hd (fun q cA H1 hK1 hP1 hD1 hS1 => ?_)
  · rw [vp_cell_i]
    congr 1
    funext j
    rw [z0]
    rfl
  · have := (ofInt_lt (x := (N : Int)) (y := 0) (by unfold inR; omega) inR_0).mp q
    omega
  have hR : s.vm.findClass _ = some cA := (hK1.2 (tysOf G).length (cA, .int) (by rw [List.getElem?_append_right (Nat.le_refl _), Nat.sub_self]; rfl)).2
  have hR0 : s.vm.findClass _ = some (G.2.2.1 0) := (e6.1.2 0 (G.2.2.1 0, .int) rfl).2
  have hcA : cA = G.2.2.1 0 := Option.some.inj (hR.symm.trans hR0)
  subst hcA
  refine W.szK (fun hu => ?_)
  have hq := vb_addr hP1 hD1 hu hz
  subst hq
  have hP2 : va_P G.2.1 vwCl (mkB G (M + 1, (o, h))) H1 := by
    have hx := mkB_new (G := G) (w := (M, (o, h))) (o' := o) hcat (fun a ha => rfl)
    change mkB G (M + 1, (o, h)) = mkB G (M, (o, h)) ++ [(G.1 + M, cellO G (o M) k i (h k i))] at hx
    rw [hx, cellO_arr hk, cellR_int hk, hN]
    exact hP1
  have k2 := k1 ho ⟨hcat.2, hs.2⟩ (by show s.heap.size + (n + 1) = G.1 + (M + 1); have : s.heap.size + n = G.1 + M := hz; omega) hw.newa H1 L ls hL hP2 hS1
  rw [List.map_cons, cv_cat' (G := G) hcat] at k2
  exact k2
theorem va_P_last {D : va_G} {cl : List vw_C} {ws : va_W} {q N : Nat} {cA : ClassId} {f f' : Nat → Option Nat} {H : Heap} (h : va_P D cl (ws ++ [(q, .inl (cA, N, .inr (.inr (.inr (.inr f)))))]) H) (hf : ∀ j, j < N → f' j = f j) : va_P D cl (ws ++ [(q, .inl (cA, N, .inr (.inr (.inr (.inr f')))))]) H := by
  intro k x hx
  rcases Nat.lt_or_ge k ws.length with z | z
  · rw [List.getElem?_append_left z] at hx
    exact h k x (by rw [List.getElem?_append_left z]; exact hx)
  · rw [List.getElem?_append_right z] at hx
    have hz : k - ws.length < 1 := (List.getElem?_eq_some_iff.mp hx).1
    rw [show k - ws.length = 0 by omega] at hx
    cases hx
    have h0 : va_at D cl (q, .inl (cA, N, .inr (.inr (.inr (.inr f))))) H := h ws.length _ (by rw [List.getElem?_append_right (Nat.le_refl _), Nat.sub_self]; rfl)
    have h1 : H[q]? = some (vp_cell cA (N, .inr (.inr (.inr (.inr f))))) := h0
    show H[q]? = some (vp_cell cA (N, .inr (.inr (.inr (.inr f')))))
    rw [h1, vp_cell_q, vp_cell_q]
    unfold arrV
    congr 3
    funext j
    show va_rf (f j.1) = va_rf (f' j.1)
    rw [hf j.1 j.2]
theorem VB.newL (hc : VC G p R s m args meth c own cc nL d) {idx : Nat} {i : Int} (h4 : Cond.classLink own idx RX6 ∈ tblG) (h5 : va_AO RX6 s) (hcat : cat M 23 i) (hn : n + 1 ≤ R.cells ∧ n2 + 40 ≤ R.slots) (hd : decode cc pc = .ok (.anewarray idx, 3))
    (k1 : o M = oT → VB G p l e R s m args below meth c Q nL (pc + 3) lo ((33, i) :: st) (M + 1, (oset o M (fun j => Nat.ble 40 j), h)) (n + 1) (n2 + 40)) (hfl : G.2.2.1 399 = 1 := by assumption) : VB G p l e R s m args below meth c Q nL pc lo ((0, 40) :: st) (M, (o, h)) n n2 := by
  intro ho hs hz hw H L ls hL hP hS
  obtain ⟨e1, e2, e3, e4, e5, e6, -⟩ := hc
  have hE : G.1 ≤ s.heap.size := e6.2.2.2.2.2.2.2.2.1
  refine va_newq (N' := 40) e1 e2 e4 (e5 _ h4) h5 e6.1 hP (mkB_D G (M, (o, h))) hS (fun q hq => ⟨by omega, Or.inl hfl⟩) (by decide) (by decide) (by decide) hn.1 hn.2 hd (fun q cA H1 hK1 hP1 hD1 hS1 => ?_)
  have hR := (hK1.2 (tysOf G).length (cA, .object RX6) (by rw [List.getElem?_append_right (Nat.le_refl _), Nat.sub_self]; rfl)).2
  have hR0 := (e6.1.2 1 (G.2.2.1 3, .object RX6) rfl).2
  obtain ⟨_, _, _, _, _, hR⟩ := hR
  obtain ⟨_, _, _, _, _, hR0⟩ := hR0
  have hcA : cA = G.2.2.1 3 := Option.some.inj (hR.symm.trans hR0)
  subst hcA
  refine W.szK (fun hu => ?_)
  have hq := vb_addr hP1 hD1 hu hz
  subst hq
  have hP2 : va_P G.2.1 vwCl (mkB G (M + 1, (oset o M (fun j => Nat.ble 40 j), h))) H1 := by
    have hx := mkB_new (G := G) (w := (M, (o, h))) (o' := oset o M (fun j => Nat.ble 40 j)) hcat (fun a ha => by have : a < M := ha; unfold oset; rw [if_neg (by omega)])
    change mkB G (M + 1, (oset o M (fun j => Nat.ble 40 j), h)) = mkB G (M, (o, h)) ++ [(G.1 + M, cellO G (oset o M (fun j => Nat.ble 40 j) M) 23 i (h 23 i))] at hx
    have hy : oset o M (fun j => Nat.ble 40 j) M = (fun j => Nat.ble 40 j) := by unfold oset; rw [if_pos rfl]
    rw [hx, hy]
    refine va_P_last hP1 (fun j hj => ?_)
    have : Nat.ble 40 j = false := by
      cases hb : Nat.ble 40 j with
      | false => rfl
      | true => have := Nat.le_of_ble_eq_true hb; have : j < 40 := hj; omega
    show (if Nat.ble 40 j = true then _ else none) = none
    rw [if_neg (by rw [this]; decide)]
  have k2 := k1 (hw.2 M (Nat.le_refl _)) ho ⟨hcat.2, hs.2⟩ (by show s.heap.size + (n + 1) = G.1 + (M + 1); have : s.heap.size + n = G.1 + M := hz; omega) (hw.new _) H1 L ls hL hP2 hS1
  rw [List.map_cons, show cv G (33, i) = .ref (G.1 + M) from cv_cat' (G := G) hcat] at k2
  exact k2
theorem fldO_set {G : GG} {o : Nat → Bool} {f : Int → Int} {k j : Nat} {i v : Int} (hr : kRt k j = none) : ((List.range (kLen k)).map (fun j' => if o j' then fldV G f k i j' else (match kRt k j' with | none => Value.int (Int32.ofInt (f j')) | some _ => Value.null))).set j (.int (Int32.ofInt v)) = (List.range (kLen k)).map (fun j' => if o j' then fldV G (fun j' => if j' = (j : Int) then v else f j') k i j' else (match kRt k j' with | none => Value.int (Int32.ofInt (if (j' : Int) = (j : Int) then v else f j')) | some _ => Value.null)) := by
  apply List.ext_getElem?
  intro a
  rw [List.getElem?_set, List.length_map, List.length_range, List.getElem?_map, List.getElem?_map]
  rcases Nat.lt_or_ge a (kLen k) with q | q
  · rw [List.getElem?_range q]
    by_cases e : j = a
    · subst e
      rw [if_pos rfl, if_pos q]
      show some _ = some _
      congr 1
      unfold fldV
      simp [hr]
    · rw [if_neg e]
      show some _ = some _
      congr 1
      have ne : ¬ ((a : Nat) : Int) = (j : Int) := by omega
      unfold fldV
      cases hk9 : kRt k a with
      | none => simp [ne, hk9]
      | some r => simp [hk9]
  · rw [List.getElem?_eq_none (by rw [List.length_range]; exact q)]
    split
    · split
      · rename_i e1 e2; omega
      · rfl
    · rfl
theorem fldR_set {G : GG} {o : Nat → Bool} {f : Int → Int} {k j : Nat} {i : Int} {r : Nat × Option Int} (hr : kRt k j = some r) : ((List.range (kLen k)).map (fun j' => if o j' then fldV G f k i j' else (match kRt k j' with | none => Value.int (Int32.ofInt (f j')) | some _ => Value.null))).set j (.ref (G.1 + kAt r.1 (kTo r i))) = (List.range (kLen k)).map (fun j' => if (j' == j || o j') then fldV G f k i j' else (match kRt k j' with | none => Value.int (Int32.ofInt (f j')) | some _ => Value.null)) := by
  apply List.ext_getElem?
  intro a
  rw [List.getElem?_set, List.length_map, List.length_range, List.getElem?_map, List.getElem?_map]
  rcases Nat.lt_or_ge a (kLen k) with q | q
  · rw [List.getElem?_range q]
    by_cases e : j = a
    · subst e
      rw [if_pos rfl, if_pos q]
      show some _ = some _
      congr 1
      unfold fldV
      simp [hr]
    · rw [if_neg e]
      show some _ = some _
      congr 1
      have : (a == j) = false := by
        rw [beq_eq_false_iff_ne]
        omega
      dsimp only
      rw [this, Bool.false_or]
  · rw [List.getElem?_eq_none (by rw [List.length_range]; exact q)]
    split
    · split
      · rename_i e1 e2; omega
      · rfl
    · rfl
theorem VB.putG {ty : FieldType} (hc : VC G p R s m args meth c own cc nL d) {idx ci j k a : Nat} {i jj x : Int} (hf : FLok own idx ci j) (hg : FPok ci j ty) (hk : kCls k = ci) (hci : Nat.ble (ci + 1) 90 = true) (hj : Nat.ble (j + 1) (kLen k) = true) (hr : kRt k j = none) (hjj : ((j : Nat) : Int) = jj) (hcat : cat a k i) (ha : a < M) (hM : M ≤ nCell) (hd : decode cc pc = .ok (.putfield idx, 3))
    (hn : narrow ty (.int (Int32.ofInt x)) = .int (Int32.ofInt x)) (hfit : fits ty (.int (Int32.ofInt x)) = true)
    (k1 : VB G p l e R s m args below meth c Q nL (pc + 3) lo st (M, (o, up h k i jj x)) n n2) (hfl : G.2.2.1 399 = 1 := by assumption) : VB G p l e R s m args below meth c Q nL pc lo ((0, x) :: (k + 10, i) :: st) (M, (o, h)) n n2 := by
  intro ho hs hz hw H L ls hL hP hS
  obtain ⟨C, T, N, h1, h2, h3, h4, h5⟩ := hf
  obtain ⟨C', T', N', ty0, g1, g2, g3, g4, g5⟩ := hg
  rw [h1] at g1
  cases g1
  obtain ⟨e1, e2, e3, e4, e5, ⟨e6, -⟩, -⟩ := hc
  have hx := mkB_at (G := G) (w := (M, (o, h))) hcat ha
  change (mkB G (M, (o, h)))[a]? = some (G.1 + a, cellO G (o a) k i (h k i)) at hx
  rw [cellO_obj hk hci] at hx
  subst hjj
  rw [List.map_cons, List.map_cons, cv_cat' (G := G) hcat, show cv G (0, x) = Value.int (Int32.ofInt x) from rfl]
  refine va_put e1 e2 e5 h2 ty0 g2 g3 e4 e6 hP (mkB_D G _) hS a hx h1 j h3 (e5 _ h5) (by rw [h4]; exact fun _ q => q) g4 (ty := ty) (by rw [g2 j h3, g5]) hn hfit (by rw [List.length_map, List.length_range]; exact Nat.le_of_ble_eq_true hj) hd (fun H1 L1 hP1 hD1 hS1 => ?_)
  have hy : (mkB G (M, (o, h))).set a (G.1 + a, cellO G (o a) k i (up h k i (j : Int) x k i)) = mkB G (M, (o, up h k i (j : Int) x)) := mkB_put hcat rfl rfl (fun b hb hne => by
    have hb' : b < M := hb
    show cellO G (o b) _ _ (up h k i (j : Int) x _ _) = cellO G (o b) _ _ (h _ _)
    rw [up_off hcat (by omega) hne])
  have hu : up h k i (j : Int) x k i = (fun j' => if j' = (j : Int) then x else h k i j') := by
    unfold up upr
    rw [if_pos rfl, if_pos rfl]
  rw [cellO_obj hk hci, hu] at hy
  rw [fldO_set hr] at hP1
  rw [hy] at hP1
  exact k1 ho hs.2.2 hz (hw.u1 hcat ha) H1 L1 ls hL hP1 hS1
theorem VB.put0 {ty : FieldType} (hc : VC G p R s m args meth c own cc nL d) {idx ci j k a : Nat} {i jj x : Int} (hf : FLok own idx ci j) (hg : FPok ci j ty) (hk : kCls k = ci) (hci : Nat.ble (ci + 1) 90 = true) (hj : Nat.ble (j + 1) (kLen k) = true) (hr : kRt k j = none) (hjj : ((j : Nat) : Int) = jj) (hcat : cat a k i) (ha : a < M) (hM : M ≤ nCell) (h0 : h k i jj = x) (hd : decode cc pc = .ok (.putfield idx, 3))
    (hn : narrow ty (.int (Int32.ofInt x)) = .int (Int32.ofInt x)) (hfit : fits ty (.int (Int32.ofInt x)) = true)
    (k1 : VB G p l e R s m args below meth c Q nL (pc + 3) lo st (M, (o, h)) n n2) (hfl : G.2.2.1 399 = 1 := by assumption) : VB G p l e R s m args below meth c Q nL pc lo ((0, x) :: (k + 10, i) :: st) (M, (o, h)) n n2 := by
  have hu : up h k i jj x = h := by
    funext k' i' j'
    unfold up upr
    by_cases q1 : k' = k
    · subst q1
      rw [if_pos rfl]
      by_cases q2 : i' = i
      · subst q2
        rw [if_pos rfl]
        by_cases q3 : j' = jj
        · subst q3
          rw [if_pos rfl, h0]
        · rw [if_neg q3]
      · rw [if_neg q2]
    · rw [if_neg q1]
  exact VB.putG hc hf hg hk hci hj hr hjj hcat ha hM hd hn hfit (by rw [hu]; exact k1)
def FFok (ci j : Nat) (ty : FieldType) : Prop := ∃ (C : String) (T : u_T) (N : Nat) (ty0 : Nat → FieldType), vwCl[ci]? = some (C, T, N) ∧ (∀ k, k < N → parseFieldDescriptor (T k).2.2.1 = some (ty0 k)) ∧ (∀ a, a < N → ∀ b, b < N → a ≠ b → (T a).2.1 ≠ (T b).2.1) ∧ (T j).2.2.2 = true ∧ ty0 j = ty ∧ ∀ q : Nat, narrow ty (.ref q) = .ref q ∧ fits ty (.ref q) = true
theorem VB.putR {ty : FieldType} {f : Nat → Bool} (hc : VC G p R s m args meth c own cc nL d) (hin : meth.name = "<init>") {idx ci j k a k' : Nat} {i i' : Int} {r : Nat × Option Int} (hf : FLok own idx ci j) (hown : vwCl[ci]?.map (fun q => q.1) = some own) (hg : FFok ci j ty) (hk : kCls k = ci) (hci : Nat.ble (ci + 1) 90 = true) (hj : Nat.ble (j + 1) (kLen k) = true) (hr : kRt k j = some r) (hk' : r.1 = k') (hi' : kTo r i = i') (hcat : cat a k i) (ha : a < M) (hd : decode cc pc = .ok (.putfield idx, 3))
    (k1 : VB G p l e R s m args below meth c Q nL (pc + 3) lo st (M, (oset o a (fun x => x == j || f x), h)) n n2) (hfl : G.2.2.1 399 = 1 := by assumption) : VB G p l e R s m args below meth c Q nL pc lo ((k' + 10, i') :: (k + 10, i) :: st) (M, (oset o a f, h)) n n2 := by
  intro ho hs hz hw H L ls hL hP hS
  obtain ⟨C, T, N, h1, h2, h3, h4, h5⟩ := hf
  obtain ⟨C', T', N', ty0, g1, g2, g3, g4, g5, g6⟩ := hg
  rw [h1] at g1
  cases g1
  rw [h1] at hown
  have hown' : C = own := by simpa using hown
  obtain ⟨e1, e2, e3, e4, e5, ⟨e6, -⟩, -⟩ := hc
  have hx := mkB_at (G := G) (w := (M, (oset o a f, h))) hcat ha
  have hoa : oset o a f a = f := by unfold oset; rw [if_pos rfl]
  change (mkB G (M, (oset o a f, h)))[a]? = some (G.1 + a, cellO G (oset o a f a) k i (h k i)) at hx
  rw [hoa, cellO_obj hk hci] at hx
  subst hk'
  subst hi'
  rw [List.map_cons, List.map_cons, cv_cat' (G := G) hcat]
  have hsame : ∀ x, s.fieldFound? (T j).1 (T j).2.1 (T j).2.2.1 = some x → s.fieldFound? C (T j).2.1 (T j).2.2.1 = some x := by rw [h4]; exact fun _ q => q
  have hpd : parseFieldDescriptor (T j).2.2.1 = some ty := by rw [g2 j h3, g5]
  have hsz : j < ((List.range (kLen k)).map (fun j' => if f j' then fldV G (h k i) k i j' else (match kRt k j' with | none => Value.int (Int32.ofInt (h k i j')) | some _ => Value.null))).length := by rw [List.length_map, List.length_range]; exact Nat.le_of_ble_eq_true hj
  refine va_putF (own := own) (v := Value.ref (G.1 + kAt r.1 (kTo r i))) e1 e2 e5 h2 ty0 g2 g3 e4 e6 hP (mkB_D G _) hS a hx h1 j h3 (e5 _ h5) hsame g4 hin (h4.trans hown') (ty := ty) hpd (g6 _).1 (g6 _).2 hsz hd (fun H1 L1 hP1 hD1 hS1 => ?_)
  have hy : (mkB G (M, (oset o a f, h))).set a (G.1 + a, cellO G (oset o a (fun x => x == j || f x) a) k i (h k i)) = mkB G (M, (oset o a (fun x => x == j || f x), h)) := mkB_put hcat rfl rfl (fun b hb hne => by
    show cellO G (oset o a _ b) _ _ _ = cellO G (oset o a f b) _ _ _
    unfold oset
    rw [if_neg hne, if_neg hne])
  have hob : oset o a (fun x => x == j || f x) a = (fun x => x == j || f x) := by unfold oset; rw [if_pos rfl]
  rw [hob, cellO_obj hk hci] at hy
  rw [fldR_set hr] at hP1
  rw [hy] at hP1
  have hw2 : WZ (M, (oset o a (fun x => x == j || f x), h)) := by
    refine ⟨hw.1, fun b hb => ?_⟩
    have hb' : M ≤ b := hb
    have := hw.2 b hb
    change oset o a f b = oT at this
    show oset o a _ b = oT
    unfold oset at this ⊢
    rw [if_neg (by omega)] at this ⊢
    exact this
  exact k1 ho hs.2.2 hz hw2 H1 L1 ls hL hP1 hS1
theorem VB.getR (hc : VC G p R s m args meth c own cc nL d) {idx ci j k a k' : Nat} {i i' : Int} {r : Nat × Option Int} (hf : FLok own idx ci j) (hk : kCls k = ci) (hci : Nat.ble (ci + 1) 90 = true) (hj : Nat.ble (j + 1) (kLen k) = true) (hr : kRt k j = some r) (hk' : r.1 = k') (hi' : kTo r i = i') (hcat : cat a k i) (ha : a < M) (hset : o a j = true) (hd : decode cc pc = .ok (.getfield idx, 3))
    (k1 : VB G p l e R s m args below meth c Q nL (pc + 3) lo ((k' + 10, i') :: st) (M, (o, h)) n n2) : VB G p l e R s m args below meth c Q nL pc lo ((k + 10, i) :: st) (M, (o, h)) n n2 := by
  intro ho hs hz hw H L ls hL hP hS
  obtain ⟨C, T, N, h1, h2, h3, h4, h5⟩ := hf
  obtain ⟨e1, e2, e3, e4, e5, ⟨e6, -⟩, -⟩ := hc
  have hx := mkB_at (G := G) (w := (M, (o, h))) hcat ha
  change (mkB G (M, (o, h)))[a]? = some (G.1 + a, cellO G (o a) k i (h k i)) at hx
  rw [cellO_obj hk hci] at hx
  subst hk'; subst hi'
  have k2 := k1 ho ⟨kTo_ok (k := k) hs.1 hr, hs.2⟩ hz hw H L ls hL hP hS
  rw [List.map_cons, cv_cat' (G := G) hcat]
  have hj' := Nat.le_of_ble_eq_true hj
  refine va_get e1 e2 e5 h2 e4 e6 hP a hx h1 j h3 (e5 _ h5) (by rw [h4]; exact fun _ q => q) (v := fldV G (h k i) k i j) (by rw [List.getElem?_map, List.getElem?_range (by omega)]; simp only [Option.map_some, hset, if_true]) hd ?_
  have ev : fldV G (h k i) k i j = .ref (G.1 + kAt r.1 (kTo r i)) := by unfold fldV; rw [hr]
  rw [ev]
  exact k2
theorem VB.iast (hc : VC G p R s m args meth c own cc nL d) {k a : Nat} {i j x ln : Int} (hk : kCls k = 99) (hln : ((kLen k : Nat) : Int) = ln) (hj : 0 ≤ j ∧ j < ln) (hcat : cat a k i) (ha : a < M) (hM : M ≤ nCell) (hd : decode cc pc = .ok (.iastore, 1))
    (k1 : VB G p l e R s m args below meth c Q nL (pc + 1) lo st (M, (o, up h k i j x)) n n2) (hfl : G.2.2.1 399 = 1 := by assumption) : VB G p l e R s m args below meth c Q nL pc lo ((0, x) :: (0, j) :: (k + 10, i) :: st) (M, (o, h)) n n2 := by
  intro ho hs hz hw H L ls hL hP hS
  obtain ⟨e1, e2, e3, e4, e5, ⟨e6, -⟩, -⟩ := hc
  have hx := mkB_at (G := G) (w := (M, (o, h))) hcat ha
  change (mkB G (M, (o, h)))[a]? = some (G.1 + a, cellO G (o a) k i (h k i)) at hx
  rw [cellO_arr hk, cellR_int hk] at hx
  subst hln
  have hlt := kLen_lt k
  rw [List.map_cons, List.map_cons, List.map_cons, cv_cat' (G := G) hcat]
  refine va_iast e1 e2 e6 hP (mkB_D G _) hS a 0 hx rfl (ofInt_in hj.1 hj.2 hlt) hd (fun H1 L1 hP1 hD1 hS1 => ?_)
  have hy : (mkB G (M, (o, h))).set a (G.1 + a, cellO G (o a) k i (up h k i j x k i)) = mkB G (M, (o, up h k i j x)) := mkB_put hcat rfl rfl (fun b hb hne => by
    have hb' : b < M := hb
    show cellO G (o b) _ _ (up h k i j x _ _) = cellO G (o b) _ _ (h _ _)
    rw [up_off hcat (by omega) hne])
  have hu : up h k i j x k i = (fun j' => if j' = j then x else h k i j') := by
    unfold up upr
    rw [if_pos rfl, if_pos rfl]
  rw [cellO_arr hk, cellR_int hk, hu] at hy
  rw [ofI_fun hj.1 (by omega)] at hP1
  rw [hy] at hP1
  exact k1 ho hs.2.2.2 hz (hw.u1 hcat ha) H1 L1 ls hL hP1 hS1

theorem VB.aastL {f : Nat → Bool} (hc : VC G p R s m args meth c own cc nL d) {a : Nat} {i j i2 : Int} (hj : 0 ≤ j ∧ j < 40) (hi2 : i2 = if i = 3 then 20 + j else 60 + j) (hcat : cat a 23 i) (ha : a < M) (hm : kAt 6 i2 < M) (hd : decode cc pc = .ok (.aastore, 1))
    (k1 : VB G p l e R s m args below meth c Q nL (pc + 1) lo st (M, (oset o a (fun x => x == j.toNat || f x), h)) n n2) (hfl : G.2.2.1 399 = 1 := by assumption) : VB G p l e R s m args below meth c Q nL pc lo ((16, i2) :: (0, j) :: (33, i) :: st) (M, (oset o a f, h)) n n2 := by
  intro ho hs hz hw H L ls hL hP hS
  obtain ⟨e1, e2, e3, e4, e5, ⟨e6, -⟩, -⟩ := hc
  have hx := mkB_at (G := G) (w := (M, (oset o a f, h))) hcat ha
  have hoa : oset o a f a = f := by unfold oset; rw [if_pos rfl]
  change (mkB G (M, (oset o a f, h)))[a]? = some (G.1 + a, cellO G (oset o a f a) 23 i (h 23 i)) at hx
  rw [hoa] at hx
  have hx' : (mkB G (M, (oset o a f, h)))[a]? = some (G.1 + a, .inl (G.2.2.1 3, 40, .inr (.inr (.inr (.inr (fun j : Nat => if f j then some (G.1 + kAt 6 (if i = 3 then 20 + (j : Int) else 60 + (j : Int))) else none)))))) := hx
  have hv := mkB_at (G := G) (w := (M, (oset o a f, h))) (a := kAt 6 i2) (k := 6) (i := i2) ⟨rfl, hs.1⟩ hm
  rw [cellO_obj (ci := 6) rfl rfl] at hv
  have hcv : cv G (33, i) = .ref (G.1 + a) := cv_cat' (G := G) hcat
  have hcl : cv G (16, i2) = .ref (G.1 + kAt 6 i2) := rfl
  rw [List.map_cons, List.map_cons, List.map_cons, hcv, hcl]
  refine va_astq (r := (RX6, TX6, 18)) e1 e2 e6 hP (mkB_D G _) hS a 1 (kAt 6 i2) 6 hx' rfl hv rfl (ofInt_in (n := 40) hj.1 hj.2 (by decide)) hd (fun H1 L1 hP1 hD1 hS1 => ?_)
  have hy : (mkB G (M, (oset o a f, h))).set a (G.1 + a, cellO G (oset o a (fun x => x == j.toNat || f x) a) 23 i (h 23 i)) = mkB G (M, (oset o a (fun x => x == j.toNat || f x), h)) := mkB_put hcat rfl rfl (fun b hb hne => by
    show cellO G (oset o a _ b) _ _ _ = cellO G (oset o a f b) _ _ _
    unfold oset
    rw [if_neg hne, if_neg hne])
  have hob : oset o a (fun x => x == j.toNat || f x) a = (fun x => x == j.toNat || f x) := by unfold oset; rw [if_pos rfl]
  rw [hob] at hy
  have hz9 : cellO G (fun x => x == j.toNat || f x) 23 i (h 23 i) = .inl (G.2.2.1 3, 40, .inr (.inr (.inr (.inr (fun j' : Nat => if (j' == j.toNat || f j') then some (G.1 + kAt 6 (if i = 3 then 20 + (j' : Int) else 60 + (j' : Int))) else none))))) := rfl
  rw [hz9] at hy
  have hf : va_up (fun j : Nat => if f j then some (G.1 + kAt 6 (if i = 3 then 20 + (j : Int) else 60 + (j : Int))) else none) (Int32.ofInt j).toNatClampNeg (some (G.1 + kAt 6 i2)) = (fun j' : Nat => if (j' == j.toNat || f j') then some (G.1 + kAt 6 (if i = 3 then 20 + (j' : Int) else 60 + (j' : Int))) else none) := by
    funext q
    unfold va_up
    rw [ofInt_clamp hj.1 (by omega)]
    by_cases e : q = j.toNat
    · rw [if_pos e, hi2]
      have : (q == j.toNat) = true := by rw [beq_iff_eq]; exact e
      rw [this, Bool.true_or, if_pos rfl, show ((q : Nat) : Int) = j by omega]
    · rw [if_neg e]
      have : (q == j.toNat) = false := by rw [beq_eq_false_iff_ne]; exact e
      rw [this, Bool.false_or]
  rw [hf, hy] at hP1
  have hw2 : WZ (M, (oset o a (fun x => x == j.toNat || f x), h)) := by
    refine ⟨hw.1, fun b hb => ?_⟩
    have hb' : M ≤ b := hb
    have := hw.2 b hb
    change oset o a f b = oT at this
    show oset o a _ b = oT
    unfold oset at this ⊢
    rw [if_neg (by omega)] at this ⊢
    exact this
  exact k1 ho hs.2.2.2 hz hw2 H1 L1 ls hL hP1 hS1
theorem VB.obj (hc : VC G p R s m args meth c own cc nL d) {idx k : Nat} {i : Int} (h1 : Cond.methodLink own idx Lib.objectInit ∈ tblG) (h2 : Cond.instanceMethod Lib.objectInit ∈ tblG) (h3 : Cond.code Lib.objectInit ⟨#[0xb1]⟩ 1 none ∈ tblG) (hcat : Nat.ble (catS st) 8 = true) (hdd : Nat.ble 1 d = true) (hd : decode cc pc = .ok (.invokespecial idx, 3))
    (k1 : VB G p l e R s m args below meth c Q nL (pc + 3) lo st w n n2) : VB G p l e R s m args below meth c Q nL pc lo ((k + 10, i) :: st) w n n2 := by
  intro ho hs hz hw H L ls hL hP hS
  obtain ⟨e1, e2, e3, e4, e5, e6, e7, e8, e9⟩ := hc
  have hd1 := Nat.le_of_ble_eq_true hdd
  have hcw := Nat.le_trans (catS_le G st) (Nat.le_of_ble_eq_true hcat)
  have hrm := lv_room (m := m) (pc := pc) (ls := ls) (rest := List.map (cv G) ((k + 10, i) :: st)) hcw
  exact W.objInit e1 e2 e4 (e5 _ h1) (e5 _ h2) (e5 _ h3) rfl (hL.1.trans e3.symm) (a := G.1 + kAt k i) (rest := st.map (cv G)) rfl hd (by omega) (by omega) (k1 ho hs.2 hz hw H L ls hL hP hS)
/-- words that don't ride in the tables' list -/
def NX (U : State) : Prop := va_AO RX6 U ∧ va_Nw (.methodLinkNest RX11 25 yX8_init "BentShares") U ∧ va_Nw (.methodLinkNest RX8 42 yX1_init "BentShares") U ∧ va_Nw (.methodLinkNest RX6 60 yX1_init "BentShares") U ∧ va_Nw (.methodLinkNest RX11 60 yX7_init "BentShares") U ∧ va_Nw (.methodLinkNest RX11 120 yX10_init "BentShares") U
theorem NX.warm {u U : State} (hW : u.WarmedH U.vm) (h : NX u) : NX U :=
  ⟨h.1.moved hW.alike, h.2.1.warmM hW, h.2.2.1.warmM hW, h.2.2.2.1.warmM hW, h.2.2.2.2.1.warmM hW, h.2.2.2.2.2.warmM hW⟩
/-- a constructor's contract: exact worlds -/
def rmB (d cs sl : Nat) : Room := { frames := d, cells := cs, slots := sl, locals := 40 * d }
def eBc (G : GG) (as : List TV) (w : BW) : Array Value → State → Prop := fun a U => a = (as.map (cv G)).toArray ∧ okS as ∧ va_P G.2.1 vwCl (mkB G w) U.heap ∧ U.heap.size = G.1 + w.1 ∧ WZ w ∧ NX U ∧ Env G U U.heap
def QB (G : GG) (w' : BW) : Array Value → State → Outcome → State → Prop := va_Qv (fun u : BW => u = w') (fun u t => va_P G.2.1 vwCl (mkB G u) t.heap ∧ WZ u) (va_Aof G)
def CB (l : Launch) (G : GG) (y : MethodName) (b : ByteArray) (mL d cs sl : Nat) (as : List TV) (w w' : BW) : Prop :=
  Met l y (Cond.code y b mL none :: tblG) (rmB d cs sl) (eBc G as w) (QB G w') cs sl (va_Aof G)
def MOi (y : MethodName) (b : ByteArray) (mL : Nat) (n : Nat) : Prop :=
  Cond.instanceMethod y ∈ tblG ∧ Cond.initialized y.cls ∈ tblG ∧ Cond.code y b mL none ∈ tblG ∧ (y.cls ≠ "java/lang/invoke/MethodHandle" ∧ y.cls ≠ "java/lang/invoke/VarHandle") ∧ (parseMethodDescriptor y.desc).map (fun d => d.parameters.length) = some n ∧ y.name = "<init>"
theorem MOi.ws {y : MethodName} {b : ByteArray} {mL n : Nat} (h : MOi y b mL n) : GoodIn tblG (Cond.code y b mL none :: tblG) := by
  obtain ⟨h1, h3, h4, h5, h6⟩ := h
  refine tblG_good (fun w hw => ?_)
  rcases List.mem_cons.mp hw with rfl | q
  · exact h4
  · exact q
theorem eBc_blind (G : GG) (as : List TV) (w : BW) : FrameBlind (eBc G as w) := by
  intro a U g mk ⟨h1, h2, h3, h4, h5, h7, h6⟩
  exact ⟨h1, h2, h3, h4, h5, NX.warm (u := U) (U := U.calling g mk a) (State.WarmedH.refl U) h7, Env.moved (u := U) (U := U.calling g mk a) (State.WarmedH.refl U) h6⟩
theorem VB.call (hc : VC G p R s m args meth c own cc nL d) (hx : NX s) {y : MethodName} {b : ByteArray} {mL d' np idx k cs sl : Nat} {i : Int} {as st0 : List TV} {w' : BW} (hM : CB l G y b mL d' cs sl ((k + 10, i) :: as) w w') (hmo : MOi y b mL np) (hl : Cond.methodLink own idx y ∈ tblG)
    (hst : st0 = as.reverse ++ (k + 10, i) :: st) (hnp : as.length = np) (hdd : Nat.ble (d' + 1) d = true) (hm : Nat.ble mL 21 = true) (hcat : Nat.ble (catS st) 8 = true) (hn : n + cs ≤ R.cells ∧ n2 + sl ≤ R.slots) (hcnt : w'.1 = w.1 + cs) (hd : decode cc pc = .ok (.invokespecial idx, 3))
    (k1 : VB G p l e R s m args below meth c Q nL (pc + 3) lo st w' (n + cs) (n2 + sl)) : VB G p l e R s m args below meth c Q nL pc lo st0 w n n2 := by
  intro ho hs hz hw H L ls hL hP hS
  subst hst
  have hs' := okS_app.mp hs
  have hsa : okS ((k + 10, i) :: as) := ⟨hs'.2.1, okS_rev.mp hs'.1⟩
  have hr9 : (rmB d' cs sl).frames + 1 ≤ R.frames ∧ 8 + (mL + 11) + (rmB d' cs sl).locals ≤ R.locals := room_ok (mc := 0) hc hdd hm
  have e5 := hc.2.2.2.2.1
  have hE := hc.2.2.2.2.2.1
  have hE9 : G.1 ≤ s.heap.size := hE.2.2.2.2.2.2.2.2.1
  have hcw := Nat.le_trans (catS_le G st) (Nat.le_of_ble_eq_true hcat)
  refine W.szK (fun hu => ?_)
  have hsz := mkB_size hP hS hE9 hz hu
  have hpre : ∀ U : State, U.heap = H → s.WarmedH U.vm → eBc G ((k + 10, i) :: as) w (((k + 10, i) :: as).map (cv G)).toArray U := by
    intro U hU hW
    refine ⟨rfl, hsa, by rw [hU]; exact hP, by rw [hU]; exact hsz, hw, hx.warm hW, ?_⟩
    rw [hU]
    exact (hE.kept hS.1 hS.2.1).moved hW
  refine va_callv (va_runI (b := G.1 + kAt k i) (As := as.map (cv G)) (rest := st.map (cv G)) ⟨hc.1, hc.2.1, hc.2.2.1, hc.2.2.2.1, e5⟩ hM (cwI np e5 hmo.ws rfl rfl rfl (e5 _ hmo.2.1) (e5 _ hl) (e5 _ hmo.1) hmo.2.2.2.2.2 ⟨hmo.2.2.2.1.1, hmo.2.2.2.1.2, hmo.2.2.2.2.1⟩ hr9) ⟨eBc_blind G _ w, hpre⟩ rfl (by rw [List.length_map]; exact hnp) hL.1 (by simp [List.map_append, List.map_reverse]; rfl) (lv_room hcw) hd ⟨hn.1, hn.2⟩) hS (fun _ _ q => q) (fun _ q => q) (fun u t H1 L1 ht hvm hw1 hB hz1 hk1 hS1 => ?_)
  obtain ⟨hB1, hB2⟩ := hB
  subst hw1
  rw [ht] at hB1
  exact k1 ho hs'.2.2 (by rw [hcnt]; omega) hB2 H1 L1 ls hL hB1 hS1
theorem VB.callN (hc : VC G p R s m args meth c own cc nL d) (hx : NX s) {y : MethodName} {b : ByteArray} {mL d' np idx k cs sl : Nat} {i : Int} {as st0 : List TV} {w' : BW} (hM : CB l G y b mL d' cs sl ((k + 10, i) :: as) w w') (hmo : MOi y b mL np) {host : String} (hl : va_Nw (.methodLinkNest own idx y host) s)
    (hst : st0 = as.reverse ++ (k + 10, i) :: st) (hnp : as.length = np) (hdd : Nat.ble (d' + 1) d = true) (hm : Nat.ble mL 21 = true) (hcat : Nat.ble (catS st) 8 = true) (hn : n + cs ≤ R.cells ∧ n2 + sl ≤ R.slots) (hcnt : w'.1 = w.1 + cs) (hd : decode cc pc = .ok (.invokespecial idx, 3))
    (k1 : VB G p l e R s m args below meth c Q nL (pc + 3) lo st w' (n + cs) (n2 + sl)) : VB G p l e R s m args below meth c Q nL pc lo st0 w n n2 := by
  intro ho hs hz hw H L ls hL hP hS
  subst hst
  have hs' := okS_app.mp hs
  have hsa : okS ((k + 10, i) :: as) := ⟨hs'.2.1, okS_rev.mp hs'.1⟩
  have hr9 : (rmB d' cs sl).frames + 1 ≤ R.frames ∧ 8 + (mL + 11) + (rmB d' cs sl).locals ≤ R.locals := room_ok (mc := 0) hc hdd hm
  have e5 := hc.2.2.2.2.1
  have hE := hc.2.2.2.2.2.1
  have hE9 : G.1 ≤ s.heap.size := hE.2.2.2.2.2.2.2.2.1
  have hcw := Nat.le_trans (catS_le G st) (Nat.le_of_ble_eq_true hcat)
  refine W.szK (fun hu => ?_)
  have hsz := mkB_size hP hS hE9 hz hu
  have hpre : ∀ U : State, U.heap = H → s.WarmedH U.vm → eBc G ((k + 10, i) :: as) w (((k + 10, i) :: as).map (cv G)).toArray U := by
    intro U hU hW
    refine ⟨rfl, hsa, by rw [hU]; exact hP, by rw [hU]; exact hsz, hw, hx.warm hW, ?_⟩
    rw [hU]
    exact (hE.kept hS.1 hS.2.1).moved hW
  refine va_callv (va_runIN (b := G.1 + kAt k i) (As := as.map (cv G)) (rest := st.map (cv G)) ⟨hc.1, hc.2.1, hc.2.2.1, hc.2.2.2.1, e5⟩ hM ⟨va_cnB np e5 hmo.ws rfl rfl rfl hl (e5 _ hmo.2.1) ⟨hmo.2.2.2.1.1, hmo.2.2.2.1.2, hmo.2.2.2.2.1⟩ hr9, hmo.2.2.2.2.2, e5 _ hmo.1⟩ ⟨eBc_blind G _ w, hpre⟩ rfl (by rw [List.length_map]; exact hnp) hL.1 (by simp [List.map_append, List.map_reverse]; rfl) (lv_room hcw) hd ⟨hn.1, hn.2⟩) hS (fun _ _ q => q) (fun _ q => q) (fun u t H1 L1 ht hvm hw1 hB hz1 hk1 hS1 => ?_)
  obtain ⟨hB1, hB2⟩ := hB
  subst hw1
  rw [ht] at hB1
  exact k1 ho hs'.2.2 (by rw [hcnt]; omega) hB2 H1 L1 ls hL hB1 hS1
theorem VB.ret {as : List TV} (hc : VC G p R s m args meth c own cc nL d) (hr : meth.sig.returnType = none) (hd : decode cc pc = .ok (.return_, 1)) : VB G p l e R s m args below meth c (MQ below (QB G w) args s n n2 (va_Aof G)) nL pc lo [] w n n2 := by
  intro ho hs hz hw H L ls hL hP hS
  have hlocks := hc.2.2.2.2.2.2.1
  exact W.vret hc.1 hc.2.1 hr (fun t ht hW => ⟨⟨w, rfl, rfl, by rw [ht]; exact hP, hw⟩, hS.F ht⟩) hS.2.2 hd
theorem VB.swap {a b : Nat} {f g : Nat → Bool} (hab : a ≠ b) (k1 : VB G p l e R s m args below meth c Q nL pc lo st (M, (oset (oset o b g) a f, h)) n n2) : VB G p l e R s m args below meth c Q nL pc lo st (M, (oset (oset o a f) b g, h)) n n2 := by
  have : oset (oset o a f) b g = oset (oset o b g) a f := by
    funext x
    unfold oset
    by_cases h1 : x = a
    · rw [if_pos h1, if_neg (by omega), if_pos h1]
    · rw [if_neg h1]
      by_cases h2 : x = b
      · rw [if_pos h2, if_neg h1]
      · rw [if_neg h2, if_neg h1]
  rw [this]
  exact k1
/-- all slots set: closed -/
theorem VB.shut {a k : Nat} {i : Int} {f : Nat → Bool} (hcat : cat a k i) (ha : a < M) (hk : Nat.ble (kCls k + 1) 90 = true) (hf : (List.range (kLen k)).all (fun j => f j || (kRt k j).isNone) = true) (k1 : VB G p l e R s m args below meth c Q nL pc lo st (M, (oset o a oT, h)) n n2) : VB G p l e R s m args below meth c Q nL pc lo st (M, (oset o a f, h)) n n2 := by
  intro ho hs hz hw H L ls hL hP hS
  have he : mkB G (M, (oset o a f, h)) = mkB G (M, (oset o a oT, h)) := mkB_eq rfl (fun b hb => by
    show cellO G (oset o a f b) _ _ _ = cellO G (oset o a oT b) _ _ _
    unfold oset
    by_cases e : b = a
    · rw [if_pos e, if_pos e, e, (kiAt_cat hcat).1, (kiAt_cat hcat).2]
      exact cellO_full hk hf
    · rw [if_neg e, if_neg e])
  rw [he] at hP
  have hw2 : WZ (M, (oset o a oT, h)) := by
    refine ⟨hw.1, fun b hb => ?_⟩
    have hb' : M ≤ b := hb
    have := hw.2 b hb
    change oset o a f b = oT at this
    show oset o a _ b = oT
    unfold oset at this ⊢
    rw [if_neg (by omega)] at this ⊢
    exact this
  exact k1 ho hs hz hw2 H L ls hL hP hS
theorem VB.shutA {a : Nat} {f : Nat → Bool} (hf : f = oT) (k1 : VB G p l e R s m args below meth c Q nL pc lo st (M, (oset o a oT, h)) n n2) : VB G p l e R s m args below meth c Q nL pc lo st (M, (oset o a f, h)) n n2 := by
  rw [hf]
  exact k1
theorem VB.drop {a : Nat} (ha : o a = oT) (k1 : VB G p l e R s m args below meth c Q nL pc lo st (M, (o, h)) n n2) : VB G p l e R s m args below meth c Q nL pc lo st (M, (oset o a oT, h)) n n2 := by
  have : oset o a oT = o := by
    funext x
    unfold oset
    by_cases e : x = a
    · rw [if_pos e, e, ha]
    · rw [if_neg e]
  rw [this]
  exact k1
theorem CB.of {y : MethodName} {b : ByteArray} {mL d cs sl : Nat} {as lo : List TV} {w w' : BW} (hy : plainName y.cls = true) (htag : tagS as = true) (hlen : Nat.ble as.length mL = true) (hlo : as ++ List.replicate (mL - as.length) (1, 0) = lo) (hin : y.name = "<init>")
    (body : ∀ (p : Program) (e : Jvm.Env) (s : State) (m : MethodId) (args : Array Value) (below : List Frame) (meth : Method) (c : Code), VC G p (rmB d cs sl) s m args meth c y.cls b mL d → meth.sig.returnType = none → meth.name = "<init>" → NX s → VB G p l e (rmB d cs sl) s m args below meth c (MQ below (QB G w') args s cs sl (va_Aof G)) mL 0 lo [] w 0 0) : CB l G y b mL d cs sl as w w' := by
  refine Met.ofW (cc := b) (maxL := mL) (ret := none) hy rfl ?_
  intro p e s m args below meth c s₁ B hml hv
  have hts := atoms_spec (ws := Cond.code y b mL none :: tblG) B.pre
  have hnm : meth.name = "<init>" := (name_of_methodNamed B.named B.method).1.trans hin
  obtain ⟨rfl, hs, hP, hsz, hw, hx, hE⟩ := hv
  have k := body p e s m _ below meth c ⟨B.exec, B.bytes, hml, findClass_of_methodNamed B.named, fun w hw => hts w (List.mem_cons_of_mem _ hw), hE, B.notSynchronized, Nat.le_refl _, Nat.le_refl _⟩ B.returns hnm hx
  rw [lg_entry_eq]
  have hL := LR.entry (G := G) (nL := mL) (tagS_ok htag) (Nat.le_of_ble_eq_true hlen)
  rw [hlo] at hL
  exact k (by rw [← hlo]; exact okS_app.mpr ⟨hs, okS_un _⟩) trivial (by omega) hw s.heap [] _ hL hP va_S.rf
end VBR
