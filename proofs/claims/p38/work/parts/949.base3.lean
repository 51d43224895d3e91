def ldcT : List (String × Nat × Nat) := [("BentShares$Reader", 103, 3), ("BentShares$Reader", 109, 4), ("BentShares$Reader", 111, 5), ("BentShares$Reader", 113, 0), ("BentShares$Reader", 115, 1), ("BentShares$Reader", 117, 2), ("BentShares$Teller", 19, 3), ("BentShares$Teller", 30, 6), ("BentShares$Teller", 42, 8), ("BentShares$Teller", 44, 9), ("BentShares$Teller", 46, 10), ("BentShares$Teller", 57, 7)]
def Env (G : GG) (U : State) (H : Heap) : Prop :=
  va_K G.2.1 vwCl (tysOf G) U ∧ True ∧ True ∧
  va_X (G.2.2.1 10) (G.2.2.1 11) G.2.2.2 U H ∧ G.2.2.1 10 < G.1 ∧ G.2.2.1 11 ≤ 3072 ∧
  (vk_S strN strLen strByt (fun i => G.2.2.1 (20 + i)) (fun i => G.2.2.1 (40 + i)) (va_Aof G) U H ∧ va_Z "java/lang/String" "COMPACT_STRINGS" "Z" (.int 1) (va_Aof G) U H ∧ va_Z "jdk/internal/util/Preconditions" "SIOOBE_FORMATTER" "Ljava/util/function/BiFunction;" (cv G (8, 0)) (va_Aof G) U H) ∧
  (∀ q ∈ ldcT, ∃ tx : String, vk_R q.1 q.2.1 tx (G.2.2.1 (20 + q.2.2)) U) ∧ G.1 ≤ H.size ∧ (∀ h, va_D (va_Aof G) (mkW G h))
theorem Env.kept {G : GG} {U : State} {H H1 : Heap} (h : Env G U H) (hz : H.size ≤ H1.size) (hq : ∀ a : Nat, a < H.size → ¬ va_Aof G a → H1[a]? = H[a]?) : Env G U H1 := by
  obtain ⟨h1, h2, h3, h4, h5, h6, h7, h8, h9, h10⟩ := h
  exact ⟨h1, h2, h3, h4.kept (hq _ (by omega) (by unfold va_Aof; omega)), h5, h6, ⟨h7.1.kept hq, h7.2.1.kept hq, h7.2.2.kept hq⟩, h8, by omega, h10⟩
theorem Env.moved {G : GG} {u U : State} {H : Heap} (hW : u.WarmedH U.vm) (h : Env G u H) : Env G U H := by
  obtain ⟨h1, h2, h3, h4, h5, h6, h7, h8, h9, h10⟩ := h
  have hvm := hW.alike
  exact ⟨h1.moved hvm, h2, h3, h4.moved hvm, h5, h6, ⟨h7.1.moved hvm, h7.2.1.moved hvm, h7.2.2.moved hvm⟩, fun q hq => (h8 q hq).elim (fun tx z => ⟨tx, z.warm hW⟩), h9, h10⟩
/-- the room of a method at depth d -/
def rmD (d : Nat) (mc : Nat) : Room := { frames := d, cells := mc, slots := 6 * mc, locals := 40 * d }
def VC (G : GG) (p : Program) (R : Room) (s : State) (m : MethodId) (args : Array Value) (meth : Method) (c : Code) (own : String) (cc : ByteArray) (nL d : Nat) : Prop :=
  p.tables.exec = Jvm.exec ∧ c.code = cc ∧ c.maxLocals = nL ∧ s.vm.findClass own = some m.cls ∧ (∀ w ∈ tblG, w.before args s = true) ∧ Env G s s.heap ∧ meth.locks = false ∧ (d ≤ R.frames ∧ 40 * d ≤ R.locals)
theorem VC.D {G : GG} {p : Program} {R : Room} {s : State} {m : MethodId} {args : Array Value} {meth : Method} {c : Code} {own : String} {cc : ByteArray} {nL d : Nat} (hc : VC G p R s m args meth c own cc nL d) (h : HP) : va_D (va_Aof G) (mkW G h) := hc.2.2.2.2.2.1.2.2.2.2.2.2.2.2.2 h
def V (G : GG) (p : Program) (l : Launch) (e : Jvm.Env) (R : Room) (s : State) (m : MethodId) (args : Array Value) (below : List Frame) (meth : Method) (c : Code) (Q : State → Prop) (nL pc : Nat) (lo st : List TV) (h : HP) (n : Nat) : Prop :=
  okS lo → okS st → ∀ (H : Heap) (L : List Loc) (ls : Array Slot), LR G nL ls lo → va_P G.2.1 vwCl (mkW G h) H → va_S (va_Aof G) s.heap H L → W p l e R s m args below meth c H L n (6 * n) Q (F0 m pc ls (st.map (cv G)))
theorem ofInt_toInt {x : Int} (h : inR x) : (Int32.ofInt x).toInt = x := Int32.toInt_ofInt_of_le h.1 h.2
theorem ofInt_lt {x y : Int} (hx : inR x) (hy : inR y) : Int32.ofInt x < Int32.ofInt y ↔ x < y := by
  rw [Int32.lt_iff_toInt_lt, ofInt_toInt hx, ofInt_toInt hy]
theorem ofInt_le {x y : Int} (hx : inR x) (hy : inR y) : Int32.ofInt x ≤ Int32.ofInt y ↔ x ≤ y := by
  rw [Int32.le_iff_toInt_le, ofInt_toInt hx, ofInt_toInt hy]
theorem ofInt_eq {x y : Int} (hx : inR x) (hy : inR y) : Int32.ofInt x = Int32.ofInt y ↔ x = y := by
  rw [← Int32.toInt_inj, ofInt_toInt hx, ofInt_toInt hy]
theorem inR_0 : inR 0 := by unfold inR; omega
theorem ofInt_clamp {x : Int} (h0 : 0 ≤ x) (h1 : x < 2147483648) : (Int32.ofInt x).toNatClampNeg = x.toNat := Int32.toNatClampNeg_ofInt_of_le (by omega) (by omega)
theorem ofInt_in {x : Int} {n : Nat} (h0 : 0 ≤ x) (h1 : x < n) (hn : n < 2147483648) : vp_in (Int32.ofInt x) n := by
  unfold vp_in
  rintro (q | q)
  · have := (ofInt_lt (x := x) (y := 0) (by unfold inR; omega) inR_0).mp q
    omega
  · rw [ofInt_clamp h0 (by omega)] at q
    omega
section VR
variable {G : GG} {p : Program} {l : Launch} {e : Jvm.Env} {R : Room} {s : State} {m : MethodId} {args : Array Value} {below : List Frame} {meth : Method} {c : Code} {Q : State → Prop} {own : String} {cc : ByteArray} {nL d pc : Nat} {lo st : List TV} {h : HP} {n : Nat}
theorem V.aload_n (hc : VC G p R s m args meth c own cc nL d) {k : Fin 4} {i t : Nat} {x : Int} (hd : decode cc pc = .ok (.aload_n k, 1)) (hi : (k : Nat) = i) (hl : lo[i]? = some (t + 10, x))
    (k1 : V G p l e R s m args below meth c Q nL (pc + 1) lo ((t + 10, x) :: st) h n) : V G p l e R s m args below meth c Q nL pc lo st h n := by
  intro ho hs H L ls hL hP hS
  exact lv_aload_n hc.1 hc.2.1 hd hi (hL.2.2 i _ hl (by show t + 10 ≠ 1; omega)).2 (k1 ho ⟨okS_at ho hl, hs⟩ H L ls hL hP hS)
theorem V.aload (hc : VC G p R s m args meth c own cc nL d) {i t : Nat} {x : Int} (hd : decode cc pc = .ok (.aload i, 2)) (hl : lo[i]? = some (t + 10, x))
    (k1 : V G p l e R s m args below meth c Q nL (pc + 2) lo ((t + 10, x) :: st) h n) : V G p l e R s m args below meth c Q nL pc lo st h n := by
  intro ho hs H L ls hL hP hS
  exact lv_aload hc.1 hc.2.1 hd (hL.2.2 i _ hl (by show t + 10 ≠ 1; omega)).2 (k1 ho ⟨okS_at ho hl, hs⟩ H L ls hL hP hS)
theorem V.iload_n (hc : VC G p R s m args meth c own cc nL d) {k : Fin 4} {i : Nat} {x : Int} (hd : decode cc pc = .ok (.iload_n k, 1)) (hi : (k : Nat) = i) (hl : lo[i]? = some (0, x))
    (k1 : V G p l e R s m args below meth c Q nL (pc + 1) lo ((0, x) :: st) h n) : V G p l e R s m args below meth c Q nL pc lo st h n := by
  intro ho hs H L ls hL hP hS
  exact lv_iload_n hc.1 hc.2.1 hd hi (hL.2.2 i _ hl (by show (0 : Nat) ≠ 1; omega)).2 (k1 ho ⟨trivial, hs⟩ H L ls hL hP hS)
theorem V.iload (hc : VC G p R s m args meth c own cc nL d) {i : Nat} {x : Int} (hd : decode cc pc = .ok (.iload i, 2)) (hl : lo[i]? = some (0, x))
    (k1 : V G p l e R s m args below meth c Q nL (pc + 2) lo ((0, x) :: st) h n) : V G p l e R s m args below meth c Q nL pc lo st h n := by
  intro ho hs H L ls hL hP hS
  exact lv_iload hc.1 hc.2.1 hd (hL.2.2 i _ hl (by show (0 : Nat) ≠ 1; omega)).2 (k1 ho ⟨trivial, hs⟩ H L ls hL hP hS)
theorem V.istore_n (hc : VC G p R s m args meth c own cc nL d) {k : Fin 4} {i : Nat} {x : Int} {lo' : List TV} (hd : decode cc pc = .ok (.istore_n k, 1)) (hi : (k : Nat) = i) (hn : Nat.ble (i + 1) nL = true) (hl : lo.set i (0, x) = lo')
    (k1 : V G p l e R s m args below meth c Q nL (pc + 1) lo' st h n) : V G p l e R s m args below meth c Q nL pc lo ((0, x) :: st) h n := by
  intro ho hs H L ls hL hP hS
  subst hl
  exact lv_istore_n hc.1 hc.2.1 hd hi hL.has (Nat.le_of_ble_eq_true hn) rfl (fun ls' h' => k1 (okS_set ho i trivial) hs.2 H L ls' (hL.set (q := (0, x)) (by show (0 : Nat) ≠ 2; omega) h') hP hS)
theorem V.istore (hc : VC G p R s m args meth c own cc nL d) {i : Nat} {x : Int} {lo' : List TV} (hd : decode cc pc = .ok (.istore i, 2)) (hn : Nat.ble (i + 1) nL = true) (hl : lo.set i (0, x) = lo')
    (k1 : V G p l e R s m args below meth c Q nL (pc + 2) lo' st h n) : V G p l e R s m args below meth c Q nL pc lo ((0, x) :: st) h n := by
  intro ho hs H L ls hL hP hS
  subst hl
  exact lv_istore hc.1 hc.2.1 hd hL.has (Nat.le_of_ble_eq_true hn) rfl (fun ls' h' => k1 (okS_set ho i trivial) hs.2 H L ls' (hL.set (q := (0, x)) (by show (0 : Nat) ≠ 2; omega) h') hP hS)
theorem V.astore (hc : VC G p R s m args meth c own cc nL d) {i t : Nat} {x : Int} {lo' : List TV} (hd : decode cc pc = .ok (.astore i, 2)) (hn : Nat.ble (i + 1) nL = true) (hl : lo.set i (t + 10, x) = lo')
    (k1 : V G p l e R s m args below meth c Q nL (pc + 2) lo' st h n) : V G p l e R s m args below meth c Q nL pc lo ((t + 10, x) :: st) h n := by
  intro ho hs H L ls hL hP hS
  subst hl
  exact lv_astore hc.1 hc.2.1 hd hL.has (Nat.le_of_ble_eq_true hn) rfl (fun ls' h' => k1 (okS_set ho i hs.1) hs.2 H L ls' (hL.set (q := (t + 10, x)) (by show t + 10 ≠ 2; omega) h') hP hS)
theorem V.iinc (hc : VC G p R s m args meth c own cc nL d) {i : Nat} {x y : Int} {lo' : List TV} (hd : decode cc pc = .ok (.iinc i y, 3)) (hn : Nat.ble (i + 1) nL = true) (hx : lo[i]? = some (0, x)) (hl : lo.set i (0, x + y) = lo')
    (k1 : V G p l e R s m args below meth c Q nL (pc + 3) lo' st h n) : V G p l e R s m args below meth c Q nL pc lo st h n := by
  intro ho hs H L ls hL hP hS
  subst hl
  have hm := lvl_mem G lo 0 i (0, x) hx (by show (0 : Nat) ≠ 1; omega)
  rw [Nat.zero_add] at hm
  obtain ⟨k, hk⟩ := List.getElem?_of_mem hm
  exact lv_iinc hc.1 hc.2.1 hd hL.has hk (v := Int32.ofInt (x + y)) (by rw [Int32.ofInt_add]) (Nat.le_of_ble_eq_true hn) rfl (fun ls' h' => k1 (okS_set ho i trivial) hs H L ls' (hL.set (q := (0, x + y)) (by show (0 : Nat) ≠ 2; omega) h') hP hS)
theorem V.iconst (hc : VC G p R s m args meth c own cc nL d) {x : Int} (hd : decode cc pc = .ok (.iconst x, 1))
    (k1 : V G p l e R s m args below meth c Q nL (pc + 1) lo ((0, x) :: st) h n) : V G p l e R s m args below meth c Q nL pc lo st h n := by
  intro ho hs H L ls hL hP hS
  exact lv_iconst hc.1 hc.2.1 hd rfl (k1 ho ⟨trivial, hs⟩ H L ls hL hP hS)
theorem V.bipush (hc : VC G p R s m args meth c own cc nL d) {x : Int} (hd : decode cc pc = .ok (.bipush x, 2)) (hx : (Int8.ofInt x).toInt32 = Int32.ofInt x)
    (k1 : V G p l e R s m args below meth c Q nL (pc + 2) lo ((0, x) :: st) h n) : V G p l e R s m args below meth c Q nL pc lo st h n := by
  intro ho hs H L ls hL hP hS
  exact lv_bipush hc.1 hc.2.1 hd hx (k1 ho ⟨trivial, hs⟩ H L ls hL hP hS)
theorem V.sipush (hc : VC G p R s m args meth c own cc nL d) {x : Int} (hd : decode cc pc = .ok (.sipush x, 3)) (hx : (Int16.ofInt x).toInt32 = Int32.ofInt x)
    (k1 : V G p l e R s m args below meth c Q nL (pc + 3) lo ((0, x) :: st) h n) : V G p l e R s m args below meth c Q nL pc lo st h n := by
  intro ho hs H L ls hL hP hS
  exact lv_sipush hc.1 hc.2.1 hd hx (k1 ho ⟨trivial, hs⟩ H L ls hL hP hS)
theorem V.ldc (hc : VC G p R s m args meth c own cc nL d) {x : Int} {idx : Nat} (hk : Cond.constant own idx (Int32.ofInt x) ∈ tblG) (hd : decode cc pc = .ok (.ldc idx, 2))
    (k1 : V G p l e R s m args below meth c Q nL (pc + 2) lo ((0, x) :: st) h n) : V G p l e R s m args below meth c Q nL pc lo st h n := by
  intro ho hs H L ls hL hP hS
  exact lv_ldc hc.1 hc.2.1 hc.2.2.2.1 (hc.2.2.2.2.1 _ hk) hd (k1 ho ⟨trivial, hs⟩ H L ls hL hP hS)
theorem V.ldcw (hc : VC G p R s m args meth c own cc nL d) {x : Int} {idx : Nat} (hk : Cond.constant own idx (Int32.ofInt x) ∈ tblG) (hd : decode cc pc = .ok (.ldc_w idx, 3))
    (k1 : V G p l e R s m args below meth c Q nL (pc + 3) lo ((0, x) :: st) h n) : V G p l e R s m args below meth c Q nL pc lo st h n := by
  intro ho hs H L ls hL hP hS
  exact lv_ldcw hc.1 hc.2.1 hc.2.2.2.1 (hc.2.2.2.2.1 _ hk) hd (k1 ho ⟨trivial, hs⟩ H L ls hL hP hS)
theorem V.goto (hc : VC G p R s m args meth c own cc nL d) {off : Int} {tgt : Nat} (hd : decode cc pc = .ok (.goto off, 3)) (ht : (pc : Int) + off = (tgt : Int))
    (k1 : V G p l e R s m args below meth c Q nL tgt lo st h n) : V G p l e R s m args below meth c Q nL pc lo st h n := by
  intro ho hs H L ls hL hP hS
  exact lv_goto hc.1 hc.2.1 hd ht (k1 ho hs H L ls hL hP hS)
theorem V.pop (hc : VC G p R s m args meth c own cc nL d) {q : TV} (hd : decode cc pc = .ok (.pop, 1)) (hq : q.1 ≠ 2)
    (k1 : V G p l e R s m args below meth c Q nL (pc + 1) lo st h n) : V G p l e R s m args below meth c Q nL pc lo (q :: st) h n := by
  intro ho hs H L ls hL hP hS
  exact lv_pop hc.1 hc.2.1 hd (cv_cat G q hq) (k1 ho hs.2 H L ls hL hP hS)
theorem V.dup (hc : VC G p R s m args meth c own cc nL d) {q : TV} (hd : decode cc pc = .ok (.dup, 1)) (hq : q.1 ≠ 2)
    (k1 : V G p l e R s m args below meth c Q nL (pc + 1) lo (q :: q :: st) h n) : V G p l e R s m args below meth c Q nL pc lo (q :: st) h n := by
  intro ho hs H L ls hL hP hS
  exact lv_dup hc.1 hc.2.1 hd (cv_cat G q hq) (k1 ho ⟨hs.1, hs⟩ H L ls hL hP hS)
theorem V.dup2 (hc : VC G p R s m args meth c own cc nL d) {q r : TV} (hd : decode cc pc = .ok (.dup2, 1)) (hq : q.1 ≠ 2) (hr : r.1 ≠ 2)
    (k1 : V G p l e R s m args below meth c Q nL (pc + 1) lo (q :: r :: q :: r :: st) h n) : V G p l e R s m args below meth c Q nL pc lo (q :: r :: st) h n := by
  intro ho hs H L ls hL hP hS
  exact lv_dup2_11 hc.1 hc.2.1 hd (cv_cat G q hq) (cv_cat G r hr) (k1 ho ⟨hs.1, hs.2.1, hs⟩ H L ls hL hP hS)
theorem V.iadd (hc : VC G p R s m args meth c own cc nL d) {x y : Int} (hd : decode cc pc = .ok (.iadd, 1))
    (k1 : V G p l e R s m args below meth c Q nL (pc + 1) lo ((0, x + y) :: st) h n) : V G p l e R s m args below meth c Q nL pc lo ((0, y) :: (0, x) :: st) h n := by
  intro ho hs H L ls hL hP hS
  have k2 := k1 ho ⟨trivial, hs.2.2⟩ H L ls hL hP hS
  refine lv_iadd hc.1 hc.2.1 hd ?_
  rw [← Int32.ofInt_add]
  exact k2
theorem V.isub (hc : VC G p R s m args meth c own cc nL d) {x y : Int} (hd : decode cc pc = .ok (.isub, 1))
    (k1 : V G p l e R s m args below meth c Q nL (pc + 1) lo ((0, x - y) :: st) h n) : V G p l e R s m args below meth c Q nL pc lo ((0, y) :: (0, x) :: st) h n := by
  intro ho hs H L ls hL hP hS
  have k2 := k1 ho ⟨trivial, hs.2.2⟩ H L ls hL hP hS
  refine lv_isub hc.1 hc.2.1 hd ?_
  rw [← Int32.ofInt_sub]
  exact k2
theorem V.imul (hc : VC G p R s m args meth c own cc nL d) {x y : Int} (hd : decode cc pc = .ok (.imul, 1))
    (k1 : V G p l e R s m args below meth c Q nL (pc + 1) lo ((0, x * y) :: st) h n) : V G p l e R s m args below meth c Q nL pc lo ((0, y) :: (0, x) :: st) h n := by
  intro ho hs H L ls hL hP hS
  have k2 := k1 ho ⟨trivial, hs.2.2⟩ H L ls hL hP hS
  refine lv_imul hc.1 hc.2.1 hd ?_
  rw [← Int32.ofInt_mul]
  exact k2
theorem V.icmp_lt (hc : VC G p R s m args meth c own cc nL d) {x y : Int} {off : Int} {tgt : Nat} (hd : decode cc pc = .ok (.if_icmp .lt off, 3)) (ht : (pc : Int) + off = (tgt : Int)) (hx : inR x) (hy : inR y)
    (k1 : x < y → V G p l e R s m args below meth c Q nL tgt lo st h n) (k2 : ¬ x < y → V G p l e R s m args below meth c Q nL (pc + 3) lo st h n) : V G p l e R s m args below meth c Q nL pc lo ((0, y) :: (0, x) :: st) h n := by
  intro ho hs H L ls hL hP hS
  exact lv_icmp_lt hc.1 hc.2.1 hd ht (fun q => k1 ((ofInt_lt hx hy).mp q) ho hs.2.2 H L ls hL hP hS) (fun q => k2 (fun z => q ((ofInt_lt hx hy).mpr z)) ho hs.2.2 H L ls hL hP hS)
theorem V.icmp_le (hc : VC G p R s m args meth c own cc nL d) {x y : Int} {off : Int} {tgt : Nat} (hd : decode cc pc = .ok (.if_icmp .le off, 3)) (ht : (pc : Int) + off = (tgt : Int)) (hx : inR x) (hy : inR y)
    (k1 : x ≤ y → V G p l e R s m args below meth c Q nL tgt lo st h n) (k2 : ¬ x ≤ y → V G p l e R s m args below meth c Q nL (pc + 3) lo st h n) : V G p l e R s m args below meth c Q nL pc lo ((0, y) :: (0, x) :: st) h n := by
  intro ho hs H L ls hL hP hS
  exact lv_icmp_le hc.1 hc.2.1 hd ht (fun q => k1 ((ofInt_le hx hy).mp q) ho hs.2.2 H L ls hL hP hS) (fun q => k2 (fun z => q ((ofInt_le hx hy).mpr z)) ho hs.2.2 H L ls hL hP hS)
theorem V.icmp_eq (hc : VC G p R s m args meth c own cc nL d) {x y : Int} {off : Int} {tgt : Nat} (hd : decode cc pc = .ok (.if_icmp .eq off, 3)) (ht : (pc : Int) + off = (tgt : Int)) (hx : inR x) (hy : inR y)
    (k1 : x = y → V G p l e R s m args below meth c Q nL tgt lo st h n) (k2 : ¬ x = y → V G p l e R s m args below meth c Q nL (pc + 3) lo st h n) : V G p l e R s m args below meth c Q nL pc lo ((0, y) :: (0, x) :: st) h n := by
  intro ho hs H L ls hL hP hS
  exact lv_icmp_eq hc.1 hc.2.1 hd ht (fun q => k1 ((ofInt_eq hx hy).mp q) ho hs.2.2 H L ls hL hP hS) (fun q => k2 (fun z => q ((ofInt_eq hx hy).mpr z)) ho hs.2.2 H L ls hL hP hS)
theorem V.icmp_ne (hc : VC G p R s m args meth c own cc nL d) {x y : Int} {off : Int} {tgt : Nat} (hd : decode cc pc = .ok (.if_icmp .ne off, 3)) (ht : (pc : Int) + off = (tgt : Int)) (hx : inR x) (hy : inR y)
    (k1 : ¬ x = y → V G p l e R s m args below meth c Q nL tgt lo st h n) (k2 : x = y → V G p l e R s m args below meth c Q nL (pc + 3) lo st h n) : V G p l e R s m args below meth c Q nL pc lo ((0, y) :: (0, x) :: st) h n := by
  intro ho hs H L ls hL hP hS
  exact lv_icmp_ne hc.1 hc.2.1 hd ht (fun q => k1 (fun z => q ((ofInt_eq hx hy).mpr z)) ho hs.2.2 H L ls hL hP hS) (fun q => k2 ((ofInt_eq hx hy).mp q) ho hs.2.2 H L ls hL hP hS)
theorem V.icmp_ge (hc : VC G p R s m args meth c own cc nL d) {x y : Int} {off : Int} {tgt : Nat} (hd : decode cc pc = .ok (.if_icmp .ge off, 3)) (ht : (pc : Int) + off = (tgt : Int)) (hx : inR x) (hy : inR y)
    (k1 : y ≤ x → V G p l e R s m args below meth c Q nL tgt lo st h n) (k2 : ¬ y ≤ x → V G p l e R s m args below meth c Q nL (pc + 3) lo st h n) : V G p l e R s m args below meth c Q nL pc lo ((0, y) :: (0, x) :: st) h n := by
  intro ho hs H L ls hL hP hS
  exact lv_icmp_ge hc.1 hc.2.1 hd ht (fun q => k1 ((ofInt_le hy hx).mp q) ho hs.2.2 H L ls hL hP hS) (fun q => k2 (fun z => q ((ofInt_le hy hx).mpr z)) ho hs.2.2 H L ls hL hP hS)
theorem V.icmp_gt (hc : VC G p R s m args meth c own cc nL d) {x y : Int} {off : Int} {tgt : Nat} (hd : decode cc pc = .ok (.if_icmp .gt off, 3)) (ht : (pc : Int) + off = (tgt : Int)) (hx : inR x) (hy : inR y)
    (k1 : y < x → V G p l e R s m args below meth c Q nL tgt lo st h n) (k2 : ¬ y < x → V G p l e R s m args below meth c Q nL (pc + 3) lo st h n) : V G p l e R s m args below meth c Q nL pc lo ((0, y) :: (0, x) :: st) h n := by
  intro ho hs H L ls hL hP hS
  exact lv_icmp_gt hc.1 hc.2.1 hd ht (fun q => k1 ((ofInt_lt hy hx).mp q) ho hs.2.2 H L ls hL hP hS) (fun q => k2 (fun z => q ((ofInt_lt hy hx).mpr z)) ho hs.2.2 H L ls hL hP hS)
theorem V.if_lt (hc : VC G p R s m args meth c own cc nL d) {x : Int} {off : Int} {tgt : Nat} (hd : decode cc pc = .ok (.ifCond .lt off, 3)) (ht : (pc : Int) + off = (tgt : Int)) (hx : inR x)
    (k1 : x < 0 → V G p l e R s m args below meth c Q nL tgt lo st h n) (k2 : ¬ x < 0 → V G p l e R s m args below meth c Q nL (pc + 3) lo st h n) : V G p l e R s m args below meth c Q nL pc lo ((0, x) :: st) h n := by
  intro ho hs H L ls hL hP hS
  exact lv_if_lt hc.1 hc.2.1 hd ht (fun q => k1 ((ofInt_lt hx inR_0).mp q) ho hs.2 H L ls hL hP hS) (fun q => k2 (fun z => q ((ofInt_lt hx inR_0).mpr z)) ho hs.2 H L ls hL hP hS)
theorem V.if_le (hc : VC G p R s m args meth c own cc nL d) {x : Int} {off : Int} {tgt : Nat} (hd : decode cc pc = .ok (.ifCond .le off, 3)) (ht : (pc : Int) + off = (tgt : Int)) (hx : inR x)
    (k1 : x ≤ 0 → V G p l e R s m args below meth c Q nL tgt lo st h n) (k2 : ¬ x ≤ 0 → V G p l e R s m args below meth c Q nL (pc + 3) lo st h n) : V G p l e R s m args below meth c Q nL pc lo ((0, x) :: st) h n := by
  intro ho hs H L ls hL hP hS
  exact lv_if_le hc.1 hc.2.1 hd ht (fun q => k1 ((ofInt_le hx inR_0).mp q) ho hs.2 H L ls hL hP hS) (fun q => k2 (fun z => q ((ofInt_le hx inR_0).mpr z)) ho hs.2 H L ls hL hP hS)
theorem V.if_eq (hc : VC G p R s m args meth c own cc nL d) {x : Int} {off : Int} {tgt : Nat} (hd : decode cc pc = .ok (.ifCond .eq off, 3)) (ht : (pc : Int) + off = (tgt : Int)) (hx : inR x)
    (k1 : x = 0 → V G p l e R s m args below meth c Q nL tgt lo st h n) (k2 : ¬ x = 0 → V G p l e R s m args below meth c Q nL (pc + 3) lo st h n) : V G p l e R s m args below meth c Q nL pc lo ((0, x) :: st) h n := by
  intro ho hs H L ls hL hP hS
  exact lv_if_eq hc.1 hc.2.1 hd ht (fun q => k1 ((ofInt_eq hx inR_0).mp q) ho hs.2 H L ls hL hP hS) (fun q => k2 (fun z => q ((ofInt_eq hx inR_0).mpr z)) ho hs.2 H L ls hL hP hS)
theorem V.if_ge (hc : VC G p R s m args meth c own cc nL d) {x : Int} {off : Int} {tgt : Nat} (hd : decode cc pc = .ok (.ifCond .ge off, 3)) (ht : (pc : Int) + off = (tgt : Int)) (hx : inR x)
    (k1 : 0 ≤ x → V G p l e R s m args below meth c Q nL tgt lo st h n) (k2 : ¬ 0 ≤ x → V G p l e R s m args below meth c Q nL (pc + 3) lo st h n) : V G p l e R s m args below meth c Q nL pc lo ((0, x) :: st) h n := by
  intro ho hs H L ls hL hP hS
  exact lv_if_ge hc.1 hc.2.1 hd ht (fun q => k1 ((ofInt_le inR_0 hx).mp q) ho hs.2 H L ls hL hP hS) (fun q => k2 (fun z => q ((ofInt_le inR_0 hx).mpr z)) ho hs.2 H L ls hL hP hS)
theorem V.if_gt (hc : VC G p R s m args meth c own cc nL d) {x : Int} {off : Int} {tgt : Nat} (hd : decode cc pc = .ok (.ifCond .gt off, 3)) (ht : (pc : Int) + off = (tgt : Int)) (hx : inR x)
    (k1 : 0 < x → V G p l e R s m args below meth c Q nL tgt lo st h n) (k2 : ¬ 0 < x → V G p l e R s m args below meth c Q nL (pc + 3) lo st h n) : V G p l e R s m args below meth c Q nL pc lo ((0, x) :: st) h n := by
  intro ho hs H L ls hL hP hS
  exact lv_if_gt hc.1 hc.2.1 hd ht (fun q => k1 ((ofInt_lt inR_0 hx).mp q) ho hs.2 H L ls hL hP hS) (fun q => k2 (fun z => q ((ofInt_lt inR_0 hx).mpr z)) ho hs.2 H L ls hL hP hS)
theorem V.if_ne (hc : VC G p R s m args meth c own cc nL d) {x : Int} {off : Int} {tgt : Nat} (hd : decode cc pc = .ok (.ifCond .ne off, 3)) (ht : (pc : Int) + off = (tgt : Int)) (hx : inR x)
    (k1 : ¬ x = 0 → V G p l e R s m args below meth c Q nL tgt lo st h n) (k2 : x = 0 → V G p l e R s m args below meth c Q nL (pc + 3) lo st h n) : V G p l e R s m args below meth c Q nL pc lo ((0, x) :: st) h n := by
  intro ho hs H L ls hL hP hS
  exact lv_if_ne hc.1 hc.2.1 hd ht (fun q => k1 (fun z => q ((ofInt_eq hx inR_0).mpr z)) ho hs.2 H L ls hL hP hS) (fun q => k2 ((ofInt_eq hx inR_0).mp q) ho hs.2 H L ls hL hP hS)
end VR
