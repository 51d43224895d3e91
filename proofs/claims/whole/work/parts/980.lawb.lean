/-! the law's own rules -/
section VLaw
variable {G : GG} {p : Program} {l : Launch} {e : Jvm.Env} {R : Room} {s : State} {m : MethodId} {args : Array Value} {below : List Frame} {meth : Method} {c : Code} {Q : State → Prop} {own : String} {cc : ByteArray} {nL d pc : Nat} {lo st : List TV} {h : HP} {n : Nat}
theorem V.wide {n' : Nat} (hn : n ≤ n') (k1 : V G p l e R s m args below meth c Q nL pc lo st h n') : V G p l e R s m args below meth c Q nL pc lo st h n := by
  intro ho hs H L ls hL hP hS
  exact W.widen hn (by omega) (k1 ho hs H L ls hL hP hS)
theorem V.i2lN (hc : VC G p R s m args meth c own cc nL d) {x : Int} (hd : decode cc pc = .ok (.i2l, 1))
    (k1 : V G p l e R s m args below meth c Q nL (pc + 1) lo ((2, nrm x) :: st) h n) : V G p l e R s m args below meth c Q nL pc lo ((0, x) :: st) h n := by
  intro ho hs H L ls hL hP hS
  have ev : (Int32.ofInt x).toInt64 = Int64.ofInt (nrm x) := by
    have r : inR (nrm x) := ⟨Int32.le_toInt (Int32.ofInt x), Int32.toInt_lt (Int32.ofInt x)⟩
    have := ofInt_long r
    unfold nrm at this ⊢
    rw [Int32.ofInt_toInt] at this
    exact this
  exact lv_i2l hc.1 hc.2.1 hd ev (k1 ho ⟨trivial, hs.2⟩ H L ls hL hP hS)
theorem V.icmp_eqT (hc : VC G p R s m args meth c own cc nL d) {x y : Int} {off : Int} {tgt : Nat} (hd : decode cc pc = .ok (.if_icmp .eq off, 3)) (ht : (pc : Int) + off = (tgt : Int)) (hxy : x = y)
    (k1 : V G p l e R s m args below meth c Q nL tgt lo st h n) : V G p l e R s m args below meth c Q nL pc lo ((0, y) :: (0, x) :: st) h n := by
  intro ho hs H L ls hL hP hS
  subst hxy
  exact lv_icmp_eq hc.1 hc.2.1 hd ht (fun q => k1 ho hs.2.2 H L ls hL hP hS) (fun q => absurd rfl q)
theorem V.lcmpT (hc : VC G p R s m args meth c own cc nL d) {x y : Int} (hxy : x = y) (hd : decode cc pc = .ok (.lcmp, 1))
    (k1 : V G p l e R s m args below meth c Q nL (pc + 1) lo ((0, 0) :: st) h n) : V G p l e R s m args below meth c Q nL pc lo ((2, y) :: (2, x) :: st) h n := by
  intro ho hs H L ls hL hP hS
  subst hxy
  have k2 := k1 ho ⟨trivial, hs.2.2⟩ H L ls hL hP hS
  refine W.lcmp hc.1 hc.2.1 hd ?_
  have ev : lg_cmp (Int64.ofInt x) (Int64.ofInt x) = Int32.ofInt 0 := by
    unfold lg_cmp
    rw [if_neg (fun z => by have := Int64.lt_iff_toInt_lt.mp z; omega), if_pos rfl]
    rfl
  rw [ev]
  exact k2
theorem V.aloadC (hc : VC G p R s m args meth c own cc nL d) {i : Nat} {x : Int} (hd : decode cc pc = .ok (.aload_n 0, 1)) (hi : i = 0) (hl : lo[i]? = some (3, x))
    (k1 : V G p l e R s m args below meth c Q nL (pc + 1) lo ((3, x) :: st) h n) : V G p l e R s m args below meth c Q nL pc lo st h n := by
  subst hi
  exact V.aloadC_n hc hd rfl hl k1
end VLaw
