/-! rules of V: fields, arrays, the rest of arithmetic -/
def FLok (own : String) (idx ci j : Nat) : Prop := ∃ (C : String) (T : u_T) (N : Nat), vwCl[ci]? = some (C, T, N) ∧ (∀ w ∈ u_ws C T N, w ∈ tblG) ∧ j < N ∧ (T j).1 = C ∧ Cond.fieldLink own idx C (T j).2.1 (T j).2.2.1 ∈ tblG
def FPok (ci j : Nat) (ty : FieldType) : Prop := ∃ (C : String) (T : u_T) (N : Nat) (ty0 : Nat → FieldType), vwCl[ci]? = some (C, T, N) ∧ (∀ k, k < N → parseFieldDescriptor (T k).2.2.1 = some (ty0 k)) ∧ (∀ a, a < N → ∀ b, b < N → a ≠ b → (T a).2.1 ≠ (T b).2.1) ∧ (T j).2.2.2 = false ∧ ty0 j = ty
theorem kLen_lt (k : Nat) : kLen k < 2147483648 := by
  have h : ∀ l : List Nat, (∀ x ∈ l, x < 2147483648) → l.getD k 0 < 2147483648 := by
    intro l hl
    rw [List.getD_eq_getElem?_getD]
    cases hk : l[k]? with
    | none => decide
    | some x => exact hl x (List.mem_of_getElem? hk)
  exact h kLenL (by decide +kernel)
theorem cellR_obj {G : GG} {k : Nat} {i : Int} {f : Int → Int} {ci : Nat} (h : kCls k = ci) (hc : Nat.ble (ci + 1) 90 = true) : cellR G k i f = .inr (ci, (List.range (kLen k)).map (fldV G f k i)) := by
  have := Nat.le_of_ble_eq_true hc
  unfold cellR
  rw [if_pos (by omega), h]
theorem cellR_int {G : GG} {k : Nat} {i : Int} {f : Int → Int} (h : kCls k = 99) : cellR G k i f = .inl (G.2.2.1 0, kLen k, .inl (fun j : Nat => Int32.ofInt (f j))) := by
  unfold cellR
  rw [if_neg (by omega), if_pos h]
theorem cellR_lines {G : GG} {k : Nat} {i : Int} {f : Int → Int} (h : kCls k = 96) : cellR G k i f = .inl (G.2.2.1 3, kLen k, .inr (.inr (.inr (.inr (fun j : Nat => some (G.1 + kAt 6 (if i = 3 then 20 + (j : Int) else 60 + (j : Int)))))))) := by
  unfold cellR
  rw [if_neg (by omega), if_neg (by omega)]
theorem fld_at {G : GG} {f : Int → Int} {k j : Nat} {i : Int} (hj : j < kLen k) : ((List.range (kLen k)).map (fldV G f k i))[j]? = some (fldV G f k i j) := by
  rw [List.getElem?_map, List.getElem?_range hj]; rfl
theorem fld_set {G : GG} {f : Int → Int} {k j : Nat} {i v : Int} (hr : kRt k j = none) : ((List.range (kLen k)).map (fldV G f k i)).set j (.int (Int32.ofInt v)) = (List.range (kLen k)).map (fldV G (fun j' => if j' = (j : Int) then v else f j') k i) := by
  apply List.ext_getElem?
  intro a
  rw [List.getElem?_set]
  split
  · rename_i e
    subst e
    rw [List.length_map, List.length_range]
    split
    · rename_i hj
      rw [fld_at hj]
      unfold fldV
      rw [hr]
      simp
    · rename_i hj
      rw [List.getElem?_eq_none (by simpa using hj)]
  · rename_i e
    rcases Nat.lt_or_ge a (kLen k) with q | q
    · rw [fld_at q, fld_at q]
      congr 1
      unfold fldV
      split
      · show _ = Value.int (Int32.ofInt (if (a : Int) = (j : Int) then v else f a))
        rw [if_neg (by omega)]
      · rfl
    · rw [List.getElem?_eq_none (by simpa using q), List.getElem?_eq_none (by simpa using q)]
theorem ofI_fun {f : Int → Int} {j v : Int} (h0 : 0 ≤ j) (h1 : j < 2147483648) : upd (fun a : Nat => Int32.ofInt (f a)) (Int32.ofInt j).toNatClampNeg (Int32.ofInt v) = (fun a : Nat => Int32.ofInt (if (a : Int) = j then v else f a)) := by
  funext a
  unfold upd
  rw [ofInt_clamp h0 h1]
  by_cases e : (a : Int) = j
  · rw [if_pos (by omega), if_pos e]
  · rw [if_neg (by omega), if_neg e]
section VH
variable {G : GG} {p : Program} {l : Launch} {e : Jvm.Env} {R : Room} {s : State} {m : MethodId} {args : Array Value} {below : List Frame} {meth : Method} {c : Code} {Q : State → Prop} {own : String} {cc : ByteArray} {nL d pc : Nat} {lo st : List TV} {h : HP} {n : Nat}
theorem V.getI (hc : VC G p R s m args meth c own cc nL d) {idx ci j k : Nat} {i jj : Int} (hf : FLok own idx ci j) (hk : kCls k = ci) (hci : Nat.ble (ci + 1) 90 = true) (hj : Nat.ble (j + 1) (kLen k) = true) (hr : kRt k j = none) (hjj : ((j : Nat) : Int) = jj) (hd : decode cc pc = .ok (.getfield idx, 3))
    (k1 : V G p l e R s m args below meth c Q nL (pc + 3) lo ((0, h k i jj) :: st) h n) : V G p l e R s m args below meth c Q nL pc lo ((k + 10, i) :: st) h n := by
  intro ho hs H L ls hL hP hS
  obtain ⟨C, T, N, h1, h2, h3, h4, h5⟩ := hf
  have hD := hc.D h
  obtain ⟨e1, e2, e3, e4, e5, ⟨e6, -⟩, -⟩ := hc
  have hw := mkW_at G h (k := k) (i := i) hs.1
  rw [cellR_obj hk hci] at hw
  subst hjj
  refine va_get e1 e2 e5 h2 e4 e6 hP _ hw h1 j h3 (e5 _ h5) (by rw [h4]; exact fun _ q => q) (fld_at (Nat.le_of_ble_eq_true hj)) hd ?_
  have k2 := k1 ho ⟨trivial, hs.2⟩ H L ls hL hP hS
  have ev : fldV G (h k i) k i j = .int (Int32.ofInt (h k i j)) := by unfold fldV; rw [hr]
  rw [ev]
  exact k2
theorem V.getR (hc : VC G p R s m args meth c own cc nL d) {idx ci j k k' : Nat} {i i' : Int} {r : Nat × Option Int} (hf : FLok own idx ci j) (hk : kCls k = ci) (hci : Nat.ble (ci + 1) 90 = true) (hj : Nat.ble (j + 1) (kLen k) = true) (hr : kRt k j = some r) (hk' : r.1 = k') (hi' : kTo r i = i') (hd : decode cc pc = .ok (.getfield idx, 3))
    (k1 : V G p l e R s m args below meth c Q nL (pc + 3) lo ((k' + 10, i') :: st) h n) : V G p l e R s m args below meth c Q nL pc lo ((k + 10, i) :: st) h n := by
  intro ho hs H L ls hL hP hS
  obtain ⟨C, T, N, h1, h2, h3, h4, h5⟩ := hf
  have hD := hc.D h
  obtain ⟨e1, e2, e3, e4, e5, ⟨e6, -⟩, -⟩ := hc
  have hw := mkW_at G h (k := k) (i := i) hs.1
  rw [cellR_obj hk hci] at hw
  subst hk'; subst hi'
  refine va_get e1 e2 e5 h2 e4 e6 hP _ hw h1 j h3 (e5 _ h5) (by rw [h4]; exact fun _ q => q) (fld_at (Nat.le_of_ble_eq_true hj)) hd ?_
  have k2 := k1 ho ⟨kTo_ok (k := k) hs.1 hr, hs.2⟩ H L ls hL hP hS
  have ev : fldV G (h k i) k i j = .ref (G.1 + kAt r.1 (kTo r i)) := by unfold fldV; rw [hr]
  rw [ev]
  exact k2
theorem V.putG {ty : FieldType} (hc : VC G p R s m args meth c own cc nL d) {idx ci j k : Nat} {i jj x : Int} (hf : FLok own idx ci j) (hg : FPok ci j ty) (hk : kCls k = ci) (hci : Nat.ble (ci + 1) 90 = true) (hj : Nat.ble (j + 1) (kLen k) = true) (hr : kRt k j = none) (hjj : ((j : Nat) : Int) = jj) (hd : decode cc pc = .ok (.putfield idx, 3))
    (hn : narrow ty (.int (Int32.ofInt x)) = .int (Int32.ofInt x)) (hfit : fits ty (.int (Int32.ofInt x)) = true)
    (k1 : V G p l e R s m args below meth c Q nL (pc + 3) lo st (up h k i jj x) n) : V G p l e R s m args below meth c Q nL pc lo ((0, x) :: (k + 10, i) :: st) h n := by
  intro ho hs H L ls hL hP hS
  obtain ⟨C, T, N, h1, h2, h3, h4, h5⟩ := hf
  obtain ⟨C', T', N', ty0, g1, g2, g3, g4, g5⟩ := hg
  rw [h1] at g1
  cases g1
  have hD := hc.D h
  obtain ⟨e1, e2, e3, e4, e5, ⟨e6, -⟩, -⟩ := hc
  have hw := mkW_at G h (k := k) (i := i) hs.2.1
  rw [cellR_obj hk hci] at hw
  subst hjj
  refine va_put e1 e2 e5 h2 ty0 g2 g3 e4 e6 hP hD hS _ hw h1 j h3 (e5 _ h5) (by rw [h4]; exact fun _ q => q) g4 (ty := ty) (by rw [g2 j h3, g5]) hn hfit (by rw [List.length_map, List.length_range]; exact Nat.le_of_ble_eq_true hj) hd (fun H1 L1 hP1 hD1 hS1 => ?_)
  change va_P G.2.1 vwCl ((mkW G h).set (kAt k i) (G.1 + kAt k i, .inr (ci, ((List.range (kLen k)).map (fldV G (h k i) k i)).set j (.int (Int32.ofInt x))))) H1 at hP1
  rw [fld_set hr, ← cellR_obj hk hci, mkW_set G h _ hs.2.1] at hP1
  exact k1 ho hs.2.2 H1 L1 ls hL hP1 hS1
theorem V.putI (hc : VC G p R s m args meth c own cc nL d) {idx ci j k : Nat} {i jj x : Int} (hf : FLok own idx ci j) (hg : FPok ci j .int) (hk : kCls k = ci) (hci : Nat.ble (ci + 1) 90 = true) (hj : Nat.ble (j + 1) (kLen k) = true) (hr : kRt k j = none) (hjj : ((j : Nat) : Int) = jj) (hd : decode cc pc = .ok (.putfield idx, 3))
    (k1 : V G p l e R s m args below meth c Q nL (pc + 3) lo st (up h k i jj x) n) : V G p l e R s m args below meth c Q nL pc lo ((0, x) :: (k + 10, i) :: st) h n :=
  V.putG hc hf hg hk hci hj hr hjj hd rfl rfl k1
theorem V.putZ (hc : VC G p R s m args meth c own cc nL d) {idx ci j k : Nat} {i jj x : Int} (hf : FLok own idx ci j) (hg : FPok ci j .boolean) (hk : kCls k = ci) (hci : Nat.ble (ci + 1) 90 = true) (hj : Nat.ble (j + 1) (kLen k) = true) (hr : kRt k j = none) (hjj : ((j : Nat) : Int) = jj) (hx : x = 0 ∨ x = 1) (hd : decode cc pc = .ok (.putfield idx, 3))
    (k1 : V G p l e R s m args below meth c Q nL (pc + 3) lo st (up h k i jj x) n) : V G p l e R s m args below meth c Q nL pc lo ((0, x) :: (k + 10, i) :: st) h n :=
  V.putG hc hf hg hk hci hj hr hjj hd (by rcases hx with rfl | rfl <;> decide) (by rcases hx with rfl | rfl <;> decide) k1
theorem V.iald (hc : VC G p R s m args meth c own cc nL d) {k : Nat} {i j ln : Int} (hk : kCls k = 99) (hln : ((kLen k : Nat) : Int) = ln) (hj : 0 ≤ j ∧ j < ln) (hd : decode cc pc = .ok (.iaload, 1))
    (k1 : V G p l e R s m args below meth c Q nL (pc + 1) lo ((0, h k i j) :: st) h n) : V G p l e R s m args below meth c Q nL pc lo ((0, j) :: (k + 10, i) :: st) h n := by
  intro ho hs H L ls hL hP hS
  have hD := hc.D h
  obtain ⟨e1, e2, e3, e4, e5, ⟨e6, -⟩, -⟩ := hc
  have hw := mkW_at G h (k := k) (i := i) hs.2.1
  rw [cellR_int hk] at hw
  subst hln
  have hlt := kLen_lt k
  refine va_iald e1 e2 e6 hP _ 0 hw rfl (ofInt_in hj.1 hj.2 hlt) hd ?_
  have k2 := k1 ho ⟨trivial, hs.2.2⟩ H L ls hL hP hS
  rw [ofInt_clamp hj.1 (by omega), Int.toNat_of_nonneg hj.1]
  exact k2
theorem V.iast (hc : VC G p R s m args meth c own cc nL d) {k : Nat} {i j x ln : Int} (hk : kCls k = 99) (hln : ((kLen k : Nat) : Int) = ln) (hj : 0 ≤ j ∧ j < ln) (hd : decode cc pc = .ok (.iastore, 1))
    (k1 : V G p l e R s m args below meth c Q nL (pc + 1) lo st (up h k i j x) n) : V G p l e R s m args below meth c Q nL pc lo ((0, x) :: (0, j) :: (k + 10, i) :: st) h n := by
  intro ho hs H L ls hL hP hS
  have hD := hc.D h
  obtain ⟨e1, e2, e3, e4, e5, ⟨e6, -⟩, -⟩ := hc
  have hw := mkW_at G h (k := k) (i := i) hs.2.2.1
  rw [cellR_int hk] at hw
  subst hln
  have hlt := kLen_lt k
  refine va_iast e1 e2 e6 hP hD hS _ 0 hw rfl (ofInt_in hj.1 hj.2 hlt) hd (fun H1 L1 hP1 hD1 hS1 => ?_)
  rw [ofI_fun hj.1 (by omega), ← cellR_int (G := G) (k := k) (i := i) (f := fun a => if a = j then x else h k i a) hk, mkW_set G h _ hs.2.2.1] at hP1
  exact k1 ho hs.2.2.2 H1 L1 ls hL hP1 hS1
/-- of the kept lines of a history: 3 the history's, 4 the image's -/
theorem V.aald (hc : VC G p R s m args meth c own cc nL d) {i j : Int} (hj : 0 ≤ j ∧ j < 40) (hd : decode cc pc = .ok (.aaload, 1))
    (k1 : V G p l e R s m args below meth c Q nL (pc + 1) lo ((16, (if i = 3 then 20 + j else 60 + j)) :: st) h n) : V G p l e R s m args below meth c Q nL pc lo ((0, j) :: (33, i) :: st) h n := by
  intro ho hs H L ls hL hP hS
  have hD := hc.D h
  obtain ⟨e1, e2, e3, e4, e5, ⟨e6, -⟩, -⟩ := hc
  have hw := mkW_at G h (k := 23) (i := i) hs.2.1
  rw [cellR_lines rfl] at hw
  refine va_aldq e1 e2 e6 hP _ 1 hw rfl (ofInt_in (n := 40) hj.1 hj.2 (by decide)) hd ?_
  have k9 := kOk_kept0 j.toNat (by omega)
  rw [Int.toNat_of_nonneg hj.1] at k9
  have k2 := k1 ho ⟨show kOk 6 (if i = 3 then 20 + j else 60 + j) = true by split; exact k9.1; exact k9.2, hs.2.2⟩ H L ls hL hP hS
  rw [ofInt_clamp hj.1 (by omega), Int.toNat_of_nonneg hj.1]
  exact k2
theorem V.alen (hc : VC G p R s m args meth c own cc nL d) {k : Nat} {i ln : Int} (hk : kCls k = 99) (hln : ((kLen k : Nat) : Int) = ln) (hd : decode cc pc = .ok (.arraylength, 1))
    (k1 : V G p l e R s m args below meth c Q nL (pc + 1) lo ((0, ln) :: st) h n) : V G p l e R s m args below meth c Q nL pc lo ((k + 10, i) :: st) h n := by
  intro ho hs H L ls hL hP hS
  obtain ⟨e1, e2, e3, e4, e5, ⟨e6, -⟩, -⟩ := hc
  have hw := mkW_at G h (k := k) (i := i) hs.1
  subst hln
  rw [cellR_int hk] at hw
  exact va_alen e1 e2 e6 hP _ 0 hw rfl (by rw [← Int32.ofInt_eq_ofNat]) hd (k1 ho ⟨trivial, hs.2⟩ H L ls hL hP hS)
theorem cv_s (G : GG) : cv G (3, 0) = .ref (G.2.2.1 10) := rfl
/-- of the script -/
theorem V.slen (hc : VC G p R s m args meth c own cc nL d) (hd : decode cc pc = .ok (.arraylength, 1))
    (k1 : V G p l e R s m args below meth c Q nL (pc + 1) lo ((0, (G.2.2.1 11 : Nat)) :: st) h n) : V G p l e R s m args below meth c Q nL pc lo ((3, 0) :: st) h n := by
  intro ho hs H L ls hL hP hS
  obtain ⟨e1, e2, e3, e4, e5, ⟨e6, -, -, f4, f5, f6, -, -, f9, -⟩, -⟩ := hc
  rw [List.map_cons, cv_s]
  refine va_slen e1 e2 f4 (by omega) (by unfold va_Aof; omega) hS hd ?_
  have k2 := k1 ho ⟨trivial, hs.2⟩ H L ls hL hP hS
  rw [← Int32.ofInt_eq_ofNat]
  exact k2
theorem V.sld (hc : VC G p R s m args meth c own cc nL d) {j : Int} (hj : 0 ≤ j ∧ j < (G.2.2.1 11 : Nat)) (hd : decode cc pc = .ok (.iaload, 1))
    (k1 : V G p l e R s m args below meth c Q nL (pc + 1) lo ((0, (G.2.2.2 j.toNat).toInt) :: st) h n) : V G p l e R s m args below meth c Q nL pc lo ((0, j) :: (3, 0) :: st) h n := by
  intro ho hs H L ls hL hP hS
  obtain ⟨e1, e2, e3, e4, e5, ⟨e6, -, -, f4, f5, f6, -, -, f9, -⟩, -⟩ := hc
  rw [List.map_cons, List.map_cons, cv_s]
  refine va_sld e1 e2 f4 (by omega) (by unfold va_Aof; omega) hS (ofInt_in hj.1 hj.2 (by omega)) hd ?_
  have k2 := k1 ho ⟨trivial, hs.2.2⟩ H L ls hL hP hS
  rw [ofInt_clamp hj.1 (by omega)]
  have ev : cv G (0, (G.2.2.2 j.toNat).toInt) = .int (G.2.2.2 j.toNat) := by
    show Value.int (Int32.ofInt (G.2.2.2 j.toNat).toInt) = _
    rw [Int32.ofInt_toInt]
  rw [List.map_cons, ev] at k2
  exact k2
end VH
