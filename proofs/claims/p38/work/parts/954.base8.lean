/-! the rest of arithmetic; library members; catching -/
section VA2
variable {G : GG} {p : Program} {l : Launch} {e : Jvm.Env} {R : Room} {s : State} {m : MethodId} {args : Array Value} {below : List Frame} {meth : Method} {c : Code} {Q : State → Prop} {own : String} {cc : ByteArray} {nL d pc : Nat} {lo st : List TV} {h : HP} {n : Nat}
theorem V.ineg (hc : VC G p R s m args meth c own cc nL d) {x : Int} (hd : decode cc pc = .ok (.ineg, 1))
    (k1 : V G p l e R s m args below meth c Q nL (pc + 1) lo ((0, -x) :: st) h n) : V G p l e R s m args below meth c Q nL pc lo ((0, x) :: st) h n := by
  intro ho hs H L ls hL hP hS
  have k2 := k1 ho ⟨trivial, hs.2⟩ H L ls hL hP hS
  refine lv_ineg hc.1 hc.2.1 hd ?_
  rw [← Int32.ofInt_neg]
  exact k2
theorem ofInt_div {x y : Int} (hx : 0 ≤ x ∧ x < 2147483648) (hy : 0 < y ∧ y < 2147483648) : Int32.ofInt x / Int32.ofInt y = Int32.ofInt (x / y) := by
  obtain ⟨a, rfl⟩ := Int.eq_ofNat_of_zero_le hx.1
  obtain ⟨b, rfl⟩ := Int.eq_ofNat_of_zero_le (Int.le_of_lt hy.1)
  have h1 := pk_div (a := a) (d := b) (by omega) (by omega) (by omega)
  rw [Int32.ofInt_eq_ofNat, Int32.ofInt_eq_ofNat]
  exact h1
theorem ofInt_ne0 {y : Int} (hy : 0 < y ∧ y < 2147483648) : ¬ Int32.ofInt y = 0 := by
  intro q
  have := (ofInt_eq (x := y) (y := 0) (by unfold inR; omega) inR_0).mp q
  omega
theorem V.idiv (hc : VC G p R s m args meth c own cc nL d) {x y : Int} (hx : 0 ≤ x ∧ x < 2147483648) (hy : 0 < y ∧ y < 2147483648) (hd : decode cc pc = .ok (.idiv, 1))
    (k1 : V G p l e R s m args below meth c Q nL (pc + 1) lo ((0, x / y) :: st) h n) : V G p l e R s m args below meth c Q nL pc lo ((0, y) :: (0, x) :: st) h n := by
  intro ho hs H L ls hL hP hS
  have k2 := k1 ho ⟨trivial, hs.2.2⟩ H L ls hL hP hS
  refine lv_idiv hc.1 hc.2.1 hd (ofInt_ne0 hy) ?_
  rw [ofInt_div hx hy]
  exact k2
theorem V.irem (hc : VC G p R s m args meth c own cc nL d) {x y : Int} (hx : 0 ≤ x ∧ x < 2147483648) (hy : 0 < y ∧ y < 2147483648) (hd : decode cc pc = .ok (.irem, 1))
    (k1 : V G p l e R s m args below meth c Q nL (pc + 1) lo ((0, x % y) :: st) h n) : V G p l e R s m args below meth c Q nL pc lo ((0, y) :: (0, x) :: st) h n := by
  intro ho hs H L ls hL hP hS
  have k2 := k1 ho ⟨trivial, hs.2.2⟩ H L ls hL hP hS
  refine lv_irem hc.1 hc.2.1 hd (ofInt_ne0 hy) ?_
  rw [ofInt_div hx hy, ← Int32.ofInt_mul, ← Int32.ofInt_sub, show x - x / y * y = x % y by rw [Int.emod_def, Int.mul_comm]]
  exact k2
theorem V.ishl (hc : VC G p R s m args meth c own cc nL d) {x y : Int} (hd : decode cc pc = .ok (.ishl, 1))
    (k1 : V G p l e R s m args below meth c Q nL (pc + 1) lo ((0, bShl x y) :: st) h n) : V G p l e R s m args below meth c Q nL pc lo ((0, y) :: (0, x) :: st) h n := by
  intro ho hs H L ls hL hP hS
  have k2 := k1 ho ⟨trivial, hs.2.2⟩ H L ls hL hP hS
  refine lv_ishl hc.1 hc.2.1 hd ?_
  rw [← Int32.ofInt_toInt (Int32.ofInt x <<< (Int32.ofInt y &&& 31))]
  exact k2
theorem V.ishr (hc : VC G p R s m args meth c own cc nL d) {x y : Int} (hd : decode cc pc = .ok (.ishr, 1))
    (k1 : V G p l e R s m args below meth c Q nL (pc + 1) lo ((0, bShr x y) :: st) h n) : V G p l e R s m args below meth c Q nL pc lo ((0, y) :: (0, x) :: st) h n := by
  intro ho hs H L ls hL hP hS
  have k2 := k1 ho ⟨trivial, hs.2.2⟩ H L ls hL hP hS
  refine lv_ishr hc.1 hc.2.1 hd ?_
  rw [← Int32.ofInt_toInt (Int32.ofInt x >>> (Int32.ofInt y &&& 31))]
  exact k2
theorem V.iushr (hc : VC G p R s m args meth c own cc nL d) {x y : Int} (hd : decode cc pc = .ok (.iushr, 1))
    (k1 : V G p l e R s m args below meth c Q nL (pc + 1) lo ((0, bUshr x y) :: st) h n) : V G p l e R s m args below meth c Q nL pc lo ((0, y) :: (0, x) :: st) h n := by
  intro ho hs H L ls hL hP hS
  have k2 := k1 ho ⟨trivial, hs.2.2⟩ H L ls hL hP hS
  exact lv_iushr hc.1 hc.2.1 hd (Int32.ofInt_toInt _).symm k2
theorem V.iand (hc : VC G p R s m args meth c own cc nL d) {x y : Int} (hd : decode cc pc = .ok (.iand, 1))
    (k1 : V G p l e R s m args below meth c Q nL (pc + 1) lo ((0, bAnd x y) :: st) h n) : V G p l e R s m args below meth c Q nL pc lo ((0, y) :: (0, x) :: st) h n := by
  intro ho hs H L ls hL hP hS
  have k2 := k1 ho ⟨trivial, hs.2.2⟩ H L ls hL hP hS
  refine lv_iand hc.1 hc.2.1 hd ?_
  rw [← Int32.ofInt_toInt (Int32.ofInt x &&& Int32.ofInt y)]
  exact k2
theorem V.ior (hc : VC G p R s m args meth c own cc nL d) {x y : Int} (hd : decode cc pc = .ok (.ior, 1))
    (k1 : V G p l e R s m args below meth c Q nL (pc + 1) lo ((0, bOr x y) :: st) h n) : V G p l e R s m args below meth c Q nL pc lo ((0, y) :: (0, x) :: st) h n := by
  intro ho hs H L ls hL hP hS
  have k2 := k1 ho ⟨trivial, hs.2.2⟩ H L ls hL hP hS
  refine lv_ior hc.1 hc.2.1 hd ?_
  rw [← Int32.ofInt_toInt (Int32.ofInt x ||| Int32.ofInt y)]
  exact k2
theorem V.ixor (hc : VC G p R s m args meth c own cc nL d) {x y : Int} (hd : decode cc pc = .ok (.ixor, 1))
    (k1 : V G p l e R s m args below meth c Q nL (pc + 1) lo ((0, bXor x y) :: st) h n) : V G p l e R s m args below meth c Q nL pc lo ((0, y) :: (0, x) :: st) h n := by
  intro ho hs H L ls hL hP hS
  have k2 := k1 ho ⟨trivial, hs.2.2⟩ H L ls hL hP hS
  refine lv_ixor hc.1 hc.2.1 hd ?_
  rw [← Int32.ofInt_toInt (Int32.ofInt x ^^^ Int32.ofInt y)]
  exact k2
theorem ofInt_long {x : Int} (h : inR x) : (Int32.ofInt x).toInt64 = Int64.ofInt x := by
  apply Int64.toInt_inj.mp
  rw [Int32.toInt_toInt64, ofInt_toInt h, Int64.toInt_ofInt_of_le (by have := h.1; omega) (by have := h.2; omega)]
theorem V.i2l (hc : VC G p R s m args meth c own cc nL d) {x : Int} (hx : inR x) (hd : decode cc pc = .ok (.i2l, 1))
    (k1 : V G p l e R s m args below meth c Q nL (pc + 1) lo ((2, x) :: st) h n) : V G p l e R s m args below meth c Q nL pc lo ((0, x) :: st) h n := by
  intro ho hs H L ls hL hP hS
  exact lv_i2l hc.1 hc.2.1 hd (ofInt_long hx) (k1 ho ⟨trivial, hs.2⟩ H L ls hL hP hS)
theorem V.lcmp (hc : VC G p R s m args meth c own cc nL d) {x y : Int} (hx : inR x) (hy : inR y) (hd : decode cc pc = .ok (.lcmp, 1))
    (k1 : V G p l e R s m args below meth c Q nL (pc + 1) lo ((0, if y < x then 1 else if x = y then 0 else -1) :: st) h n) : V G p l e R s m args below meth c Q nL pc lo ((2, y) :: (2, x) :: st) h n := by
  intro ho hs H L ls hL hP hS
  have k2 := k1 ho ⟨trivial, hs.2.2⟩ H L ls hL hP hS
  refine W.lcmp hc.1 hc.2.1 hd ?_
  have hx1 : (Int64.ofInt x).toInt = x := Int64.toInt_ofInt_of_le (by have := hx.1; omega) (by have := hx.2; omega)
  have hy1 : (Int64.ofInt y).toInt = y := Int64.toInt_ofInt_of_le (by have := hy.1; omega) (by have := hy.2; omega)
  have ev : lg_cmp (Int64.ofInt x) (Int64.ofInt y) = Int32.ofInt (if y < x then 1 else if x = y then 0 else -1) := by
    unfold lg_cmp
    have h1 : Int64.ofInt x > Int64.ofInt y ↔ y < x := by
      show Int64.ofInt y < Int64.ofInt x ↔ _
      rw [Int64.lt_iff_toInt_lt, hx1, hy1]
    have h2 : Int64.ofInt x = Int64.ofInt y ↔ x = y := by
      rw [← Int64.toInt_inj, hx1, hy1]
    by_cases q1 : y < x
    · rw [if_pos (h1.mpr q1), if_pos q1]; rfl
    · rw [if_neg (fun z => q1 (h1.mp z)), if_neg q1]
      by_cases q2 : x = y
      · rw [if_pos (h2.mpr q2), if_pos q2]; rfl
      · rw [if_neg (fun z => q2 (h2.mp z)), if_neg q2]; rfl
  rw [ev]
  exact k2
theorem mm_in : Cond.static Lib.Math.max.name ∈ tblG ∧ Cond.initialized "java/lang/Math" ∈ tblG ∧ Cond.code Lib.Math.max.name Lib.Math.max.code 2 (some .int) ∈ tblG := by decide +kernel
theorem ac_in : Cond.native arraycopyName ∈ tblG ∧ Cond.static arraycopyName ∈ tblG ∧ Cond.initialized "java/lang/System" ∈ tblG := by decide +kernel
theorem V.mmax (hc : VC G p R s m args meth c own cc nL d) {x y : Int} {idx : Nat} (hl : Cond.methodLink own idx Lib.Math.max.name ∈ tblG) (h1 : Nat.ble 1 d = true) (hcat : Nat.ble (catS st) 8 = true) (hx : inR x) (hy : inR y) (hd : decode cc pc = .ok (.invokestatic idx, 3))
    (k1 : V G p l e R s m args below meth c Q nL (pc + 3) lo ((0, max x y) :: st) h 0) : V G p l e R s m args below meth c Q nL pc lo ((0, y) :: (0, x) :: st) h 0 := by
  intro ho hs H L ls hL hP hS
  have hd1 := Nat.le_of_ble_eq_true h1
  have hcw := Nat.le_trans (catS_le G st) (Nat.le_of_ble_eq_true hcat)
  have k2 := k1 ho ⟨trivial, hs.2.2⟩ H L ls hL hP hS
  obtain ⟨e1, e2, e3, e4, e5, e6, e7, e8, e9⟩ := hc
  refine va_mmax e1 e2 (e3.trans hL.1.symm) e4 (e5 _ hl) (e5 _ mm_in.1) (e5 _ mm_in.2.1) (e5 _ mm_in.2.2) (by omega) (by omega) (Nat.zero_le _) (Nat.zero_le _) hd ?_
  have ev : (if Int32.ofInt x < Int32.ofInt y then Int32.ofInt y else Int32.ofInt x) = Int32.ofInt (max x y) := by
    by_cases q : x < y
    · rw [if_pos ((ofInt_lt hx hy).mpr q), show max x y = y by omega]
    · rw [if_neg (fun z => q ((ofInt_lt hx hy).mp z)), show max x y = x by omega]
  rw [ev]
  exact k2
theorem V.acopy (hc : VC G p R s m args meth c own cc nL d) {k0 k1 : Nat} {i0 i1 sp dp nn l0 l1 : Int} {idx : Nat} (hl : Cond.methodLink own idx arraycopyName ∈ tblG) (h1 : Nat.ble 2 d = true) (hk0 : kCls k0 = 99) (hk1 : kCls k1 = 99) (hl0 : ((kLen k0 : Nat) : Int) = l0) (hl1 : ((kLen k1 : Nat) : Int) = l1)
    (hg : 0 ≤ sp ∧ 0 ≤ dp ∧ 0 ≤ nn ∧ sp + nn ≤ l0 ∧ dp + nn ≤ l1) (hd : decode cc pc = .ok (.invokestatic idx, 3))
    (kk : V G p l e R s m args below meth c Q nL (pc + 3) lo [] (upr h k1 i1 (fun j => if dp ≤ j ∧ j < dp + nn then h k0 i0 (sp + (j - dp)) else h k1 i1 j)) n) : V G p l e R s m args below meth c Q nL pc lo [(0, nn), (0, dp), (k1 + 10, i1), (0, sp), (k0 + 10, i0)] h n := by
  intro ho hs H L ls hL hP hS
  have hd1 := Nat.le_of_ble_eq_true h1
  have hD := hc.D h
  obtain ⟨e1, e2, e3, e4, e5, ⟨e6, -⟩, e7, e8, e9⟩ := hc
  have hw0 := mkW_at G h (k := k0) (i := i0) hs.2.2.2.2.1
  have hw1 := mkW_at G h (k := k1) (i := i1) hs.2.2.1
  rw [cellR_int hk0] at hw0
  rw [cellR_int hk1] at hw1
  have q0 := kLen_lt k0
  have q1 := kLen_lt k1
  subst hl0; subst hl1
  obtain ⟨g1, g2, g3, g4, g5⟩ := hg
  have c1 := ofInt_clamp (x := sp) g1 (by omega)
  have c2 := ofInt_clamp (x := dp) g2 (by omega)
  have c3 := ofInt_clamp (x := nn) g3 (by omega)
  have ng : ∀ x : Int, 0 ≤ x → x < 2147483648 → ¬ Int32.ofInt x < 0 := fun x a b z => by
    have := (ofInt_lt (x := x) (y := 0) (by unfold inR; omega) inR_0).mp z
    omega
  refine va_copyi e1 e2 (e3.trans hL.1.symm) e4 (e5 _ hl) (e5 _ ac_in.1) (e5 _ ac_in.2.1) (e5 _ ac_in.2.2) e6 hP hD hS _ _ 0 0 (ty := .int) hw0 hw1 rfl rfl rfl (ng sp g1 (by omega)) (ng dp g2 (by omega)) (ng nn g3 (by omega)) (by rw [c1, c3]; omega) (by rw [c2, c3]; omega) (fun _ _ => rfl) (by omega) (Nat.le_trans (show ([] : List Value).map (fun v => v.category) |>.sum |> (· + (nativeFrameWords "java/lang/System" "arraycopy" 5 + 11)) |> (· ≤ 80) by decide) (by omega)) hd (fun H1 L1 hP1 hD1 hS1 => ?_)
  rw [c1, c2, c3] at hP1
  have ev : va_cpy (fun j : Nat => Int32.ofInt (h k0 i0 j)) (fun j : Nat => Int32.ofInt (h k1 i1 j)) sp.toNat dp.toNat nn.toNat = (fun j : Nat => Int32.ofInt ((fun j : Int => if dp ≤ j ∧ j < dp + nn then h k0 i0 (sp + (j - dp)) else h k1 i1 j) j)) := by
    funext j
    unfold va_cpy
    by_cases q : dp ≤ (j : Int) ∧ (j : Int) < dp + nn
    · rw [if_pos (by omega)]
      show _ = Int32.ofInt (if dp ≤ (j : Int) ∧ (j : Int) < dp + nn then _ else _)
      rw [if_pos q]
      show Int32.ofInt (h k0 i0 ((sp.toNat + (j - dp.toNat) : Nat) : Int)) = _
      rw [show ((sp.toNat + (j - dp.toNat) : Nat) : Int) = sp + ((j : Int) - dp) by omega]
    · rw [if_neg (by omega)]
      show _ = Int32.ofInt (if dp ≤ (j : Int) ∧ (j : Int) < dp + nn then _ else _)
      rw [if_neg q]
  rw [ev, ← cellR_int (G := G) (k := k1) (i := i1) (f := fun j : Int => if dp ≤ j ∧ j < dp + nn then h k0 i0 (sp + (j - dp)) else h k1 i1 j) hk1, mkW_set G h _ hs.2.2.1] at hP1
  exact kk ho trivial H1 L1 ls hL hP1 hS1
theorem V.tswIn (hc : VC G p R s m args meth c own cc nL d) {x lw hi dflt off : Int} {offs : Array Int} {len tgt : Nat} (v : Int) (hv : x = v) (hr : (-2147483648 ≤ v) ∧ v < 2147483648) (h1 : ¬ v < lw) (h2 : ¬ hi < v) (hd : decode cc pc = .ok (.tableswitch dflt lw hi offs, len)) (ho9 : offs[(v - lw).toNat]? = some off) (ht : (pc : Int) + off = (tgt : Int))
    (k1 : V G p l e R s m args below meth c Q nL tgt lo st h n) : V G p l e R s m args below meth c Q nL pc lo ((0, x) :: st) h n := by
  intro ho hs H L ls hL hP hS
  subst hv
  have hx := ofInt_toInt (x := x) hr
  exact lv_tableIn hc.1 hc.2.1 hd (by rw [hx]; exact h1) (by rw [hx]; exact h2) (by rw [hx]; exact ho9) ht (k1 ho hs.2 H L ls hL hP hS)
theorem V.tswOut (hc : VC G p R s m args meth c own cc nL d) {x lw hi dflt : Int} {offs : Array Int} {len tgt : Nat} (hr : inR x) (hd : decode cc pc = .ok (.tableswitch dflt lw hi offs, len)) (hx : x < lw ∨ hi < x) (ht : (pc : Int) + dflt = (tgt : Int))
    (k1 : V G p l e R s m args below meth c Q nL tgt lo st h n) : V G p l e R s m args below meth c Q nL pc lo ((0, x) :: st) h n := by
  intro ho hs H L ls hL hP hS
  exact lv_tableOut hc.1 hc.2.1 hd (by rw [ofInt_toInt hr]; exact hx) ht (k1 ho hs.2 H L ls hL hP hS)
theorem V.lsw (hc : VC G p R s m args meth c own cc nL d) {x dflt off : Int} {ps : Array (Int × Int)} {len tgt : Nat} (hr : inR x) (hd : decode cc pc = .ok (.lookupswitch dflt ps, len)) (hp : (ps.toList.zip (ps.toList.drop 1)).all (fun (a, next) => a.1 < next.1) = true) (ho9 : Op.lookupswitch.offset ps.toList dflt x = off) (ht : (pc : Int) + off = (tgt : Int))
    (k1 : V G p l e R s m args below meth c Q nL tgt lo st h n) : V G p l e R s m args below meth c Q nL pc lo ((0, x) :: st) h n := by
  intro ho hs H L ls hL hP hS
  exact lv_lookup hc.1 hc.2.1 hd hp (by rw [ofInt_toInt hr]; exact ho9) ht (k1 ho hs.2 H L ls hL hP hS)
theorem V.ldcS (hc : VC G p R s m args meth c own cc nL d) {idx j : Nat} {jj : Int} (hq : (own, idx, j) ∈ ldcT) (hj : Nat.ble (j + 1) strN = true) (hjj : ((j : Nat) : Int) = jj) (hd : decode cc pc = .ok (.ldc idx, 2))
    (k1 : V G p l e R s m args below meth c Q nL (pc + 2) lo ((6, jj) :: st) h n) : V G p l e R s m args below meth c Q nL pc lo st h n := by
  intro ho hs H L ls hL hP hS
  subst hjj
  obtain ⟨e1, e2, e3, e4, e5, ⟨f1, f2, f3, f4, f5, f6, f7, f8, f9⟩, e7⟩ := hc
  have hj1 := Nat.le_of_ble_eq_true hj
  obtain ⟨tx, f8⟩ := f8 _ hq
  exact va_ldcS e1 e2 e4 f8 hd (k1 ho ⟨⟨by omega, by omega⟩, hs⟩ H L ls hL hP hS)
theorem V.astoreX (hc : VC G p R s m args meth c own cc nL d) {i : Nat} {x : Int} {lo' : List TV} (hd : decode cc pc = .ok (.astore i, 2)) (hn : Nat.ble (i + 1) nL = true) (hl : lo.set i (5, x) = lo')
    (k1 : V G p l e R s m args below meth c Q nL (pc + 2) lo' st h n) : V G p l e R s m args below meth c Q nL pc lo ((5, x) :: st) h n := by
  intro ho hs H L ls hL hP hS
  subst hl
  exact lv_astore hc.1 hc.2.1 hd hL.has (Nat.le_of_ble_eq_true hn) rfl (fun ls' h' => k1 (okS_set ho i trivial) hs.2 H L ls' (hL.set (q := (5, x)) (by show (5 : Nat) ≠ 2; omega) h') hP hS)
theorem V.astoreX_n (hc : VC G p R s m args meth c own cc nL d) {k : Fin 4} {i : Nat} {x : Int} {lo' : List TV} (hd : decode cc pc = .ok (.astore_n k, 1)) (hi : (k : Nat) = i) (hn : Nat.ble (i + 1) nL = true) (hl : lo.set i (5, x) = lo')
    (k1 : V G p l e R s m args below meth c Q nL (pc + 1) lo' st h n) : V G p l e R s m args below meth c Q nL pc lo ((5, x) :: st) h n := by
  intro ho hs H L ls hL hP hS
  subst hl
  exact lv_astore_n hc.1 hc.2.1 hd hi hL.has (Nat.le_of_ble_eq_true hn) rfl (fun ls' h' => k1 (okS_set ho i trivial) hs.2 H L ls' (hL.set (q := (5, x)) (by show (5 : Nat) ≠ 2; omega) h') hP hS)
theorem V.astore_n (hc : VC G p R s m args meth c own cc nL d) {k : Fin 4} {i t : Nat} {x : Int} {lo' : List TV} (hd : decode cc pc = .ok (.astore_n k, 1)) (hi : (k : Nat) = i) (hn : Nat.ble (i + 1) nL = true) (hl : lo.set i (t + 10, x) = lo')
    (k1 : V G p l e R s m args below meth c Q nL (pc + 1) lo' st h n) : V G p l e R s m args below meth c Q nL pc lo ((t + 10, x) :: st) h n := by
  intro ho hs H L ls hL hP hS
  subst hl
  exact lv_astore_n hc.1 hc.2.1 hd hi hL.has (Nat.le_of_ble_eq_true hn) rfl (fun ls' h' => k1 (okS_set ho i hs.1) hs.2 H L ls' (hL.set (q := (t + 10, x)) (by show t + 10 ≠ 2; omega) h') hP hS)
/-- a text, or the script, as a local -/
theorem V.aloadS_n (hc : VC G p R s m args meth c own cc nL d) {k : Fin 4} {i : Nat} {x : Int} (hd : decode cc pc = .ok (.aload_n k, 1)) (hi : (k : Nat) = i) (hl : lo[i]? = some (6, x))
    (k1 : V G p l e R s m args below meth c Q nL (pc + 1) lo ((6, x) :: st) h n) : V G p l e R s m args below meth c Q nL pc lo st h n := by
  intro ho hs H L ls hL hP hS
  exact lv_aload_n hc.1 hc.2.1 hd hi (hL.2.2 i _ hl (by show (6 : Nat) ≠ 1; omega)).2 (k1 ho ⟨okS_at ho hl, hs⟩ H L ls hL hP hS)
theorem V.aloadC_n (hc : VC G p R s m args meth c own cc nL d) {k : Fin 4} {i : Nat} {x : Int} (hx : ∃ a, cv G (3, x) = .ref a) (hd : decode cc pc = .ok (.aload_n k, 1)) (hi : (k : Nat) = i) (hl : lo[i]? = some (3, x))
    (k1 : V G p l e R s m args below meth c Q nL (pc + 1) lo ((3, x) :: st) h n) : V G p l e R s m args below meth c Q nL pc lo st h n := by
  intro ho hs H L ls hL hP hS
  obtain ⟨a, ha⟩ := hx
  have k2 := k1 ho ⟨trivial, hs⟩ H L ls hL hP hS
  have hr := (hL.2.2 i _ hl (by show (3 : Nat) ≠ 1; omega)).2
  rw [ha] at hr
  rw [List.map_cons, ha] at k2
  exact lv_aload_n hc.1 hc.2.1 hd hi hr k2
end VA2
