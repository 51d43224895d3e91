/-! methods with handlers: they catch all that comes; their calls -/
def CwI (l : Launch) (G : GG) (y : MethodName) (b : ByteArray) (mL : Nat) (hh : List (Nat × Nat × Nat × Nat)) (d mc : Nat) (as : List TV) (h : HP) (P : Int → HP → Prop) : Prop :=
  vx_Met l y (Cond.codeWith y b mL (some .int) hh :: tblG) (rmD d mc) (ePc G as h) (QI G P) (XX G (fun _ _ => False)) mc (6 * mc) (va_Aof G)
def MOw (y : MethodName) (b : ByteArray) (mL : Nat) (hh : List (Nat × Nat × Nat × Nat)) (n : Nat) : Prop :=
  Cond.static y ∈ tblG ∧ Cond.initialized y.cls ∈ tblG ∧ Cond.codeWith y b mL (some .int) hh ∈ tblG ∧ (y.cls ≠ "java/lang/invoke/MethodHandle" ∧ y.cls ≠ "java/lang/invoke/VarHandle") ∧ (parseMethodDescriptor y.desc).map (fun d => d.parameters.length) = some n
theorem MOw.ws {y : MethodName} {b : ByteArray} {mL n : Nat} {hh : List (Nat × Nat × Nat × Nat)} (h : MOw y b mL hh n) {own : String} {idx : Nat} (hl : Cond.methodLink own idx y ∈ tblG) : GoodIn tblG (va_wsS own idx y (Cond.codeWith y b mL (some .int) hh :: tblG)) := by
  obtain ⟨h1, h3, h4, h5, h6⟩ := h
  refine tblG_good (fun w hw => ?_)
  unfold va_wsS at hw
  rcases List.mem_append.mp hw with q | q
  · simp only [List.mem_cons, List.not_mem_nil, or_false] at q
    rcases q with rfl | rfl | rfl
    · exact hl
    · exact h1
    · exact h3
  · rcases List.mem_cons.mp q with rfl | q
    · exact h4
    · exact q
section VW
variable {G : GG} {l : Launch} {y : MethodName} {b : ByteArray} {mL d mc : Nat} {ret : Option FieldType} {as lo : List TV} {h : HP} {P : Int → HP → Prop} {hh : List (Nat × Nat × Nat × Nat)}
theorem CwI.of (hy : plainName y.cls = true) (htag : tagS as = true) (hlen : Nat.ble as.length mL = true) (hlo : as ++ List.replicate (mL - as.length) (1, 0) = lo)
    (body : ∀ (p : Program) (e : Jvm.Env) (s : State) (m : MethodId) (args : Array Value) (below : List Frame) (meth : Method) (c : Code), VC G p (rmD d mc) s m args meth c y.cls b mL d → meth.sig.returnType = some .int → c.exceptionTable.toList = tableOf hh → V G p l e (rmD d mc) s m args below meth c (vx_MQ below (QI G P) (XX G (fun _ _ => False)) args s mc (6 * mc) (va_Aof G)) mL 0 lo [] h 0) : CwI l G y b mL hh d mc as h P := by
  refine vx_ofWH (cc := b) (maxL := mL) (ret := some .int) (hh := hh) hy rfl ?_
  intro p e s m args below meth c s₁ B hml hv
  have hts := atoms_spec (ws := Cond.codeWith y b mL (some .int) hh :: tblG) B.pre
  exact V.entry hv htag hlen hlo (body p e s m args below meth c ⟨B.exec, B.bytes, hml, findClass_of_methodNamed B.named, fun w hw => hts w (List.mem_cons_of_mem _ hw), hv.2.2.2, B.notSynchronized, Nat.le_refl _, Nat.le_refl _⟩ B.returns (vx_table (x := y) B (hts _ List.mem_cons_self)))
variable {p : Program} {e : Jvm.Env} {R : Room} {s : State} {m : MethodId} {args : Array Value} {below : List Frame} {meth : Method} {c : Code} {Q : State → Prop} {own : String} {cc : ByteArray} {nL pc : Nat} {st : List TV} {n : Nat} {d' mc' np idx k ci : Nat} {i : Int} {st0 : List TV} {X : Nat → HP → Prop}
/-- where an exception of kind k, thrown at pc, is caught: by which entry, behind which others -/
def CatchAt (own : String) (pc k : Nat) (hh : List (Nat × Nat × Nat × Nat)) (tgt : Nat) : Prop := ∃ (pre : List ExceptionTableEntry) (x : ExceptionTableEntry) (suf : List ExceptionTableEntry), tableOf hh = pre ++ x :: suf ∧ (∀ z ∈ pre, k = 1 ∧ z.catchType ≠ 0 ∧ Cond.classLink own z.catchType "java/util/NoSuchElementException" ∈ tblG) ∧ covers x pc = true ∧ x.catchType ≠ 0 ∧ Cond.classLink own x.catchType (exN k) ∈ tblG ∧ x.handlerPc = tgt
theorem V.callVIc (hc : VC G p R s m args meth c own cc nL d) (hxt : c.exceptionTable.toList = tableOf hh) (hM : CxI l G y b mL ret d' mc' ((k + 10, i) :: as) h P X) (hmo : MOv y b mL ret np) (hl : Cond.methodLink own idx y ∈ tblG) (hcl : vwCl[ci]?.map (fun q => q.1) = some y.cls) (hk : kCls k = ci) (hci : Nat.ble (ci + 1) 90 = true)
    (hst : st0 = as.reverse ++ (k + 10, i) :: st) (hnp : as.length = np) (hdd : Nat.ble (d' + 1) d = true) (hm : Nat.ble mL 21 = true) (hcat : Nat.ble (catS st) 8 = true) (hn : n + mc' ≤ R.cells ∧ 6 * n + 6 * mc' ≤ R.slots) (hd : decode cc pc = .ok (.invokevirtual idx, 3))
    (kx : ∀ (k9 : Nat) (h' : HP) (q9 : Int), X k9 h' → (k9 = 0 ∨ k9 = 1) ∧ ∃ tgt, CatchAt own pc k9 hh tgt ∧ V G p l e R s m args below meth c Q nL tgt lo [(5, q9)] h' (n + mc'))
    (k1 : ∀ (x : Int) (h' : HP), P x h' → V G p l e R s m args below meth c Q nL (pc + 3) lo ((0, x) :: st) h' (n + mc')) : V G p l e R s m args below meth c Q nL pc lo st0 h n := by
  intro ho hs H L ls hL hP hS
  subst hst
  have hs' := okS_app.mp hs
  have hsa : okS ((k + 10, i) :: as) := ⟨hs'.2.1, okS_rev.mp hs'.1⟩
  have hw := mkW_at G h (k := k) (i := i) hs'.2.1
  rw [cellR_obj hk hci] at hw
  obtain ⟨q, hq⟩ : ∃ q, vwCl[ci]? = some q := by
    cases hz : vwCl[ci]? with
    | none => rw [hz] at hcl; cases hcl
    | some q => exact ⟨q, rfl⟩
  rw [hq] at hcl
  have hq1 : q.1 = y.cls := by simpa using hcl
  have hrc := va_recv hc.2.2.2.2.2.1.1 hP hq hw
  rw [hq1] at hrc
  have hr9 := room_ok (mc := mc') hc hdd hm
  have e5 := hc.2.2.2.2.1
  have e7 := hc.2.2.2.2.2.2.1
  have hE := hc.2.2.2.2.2.1
  have hcw := Nat.le_trans (catS_le G st) (Nat.le_of_ble_eq_true hcat)
  refine vx_calli (vx_runV (As := as.map (cv G)) (rest := st.map (cv G)) ⟨hc.1, hc.2.1, hc.2.2.1, hc.2.2.2.1, e5⟩ hM (cwV np e5 (hmo.ws hl) rfl rfl rfl ⟨rfl, hmo.2.2.2.2.1.1, hmo.2.2.2.2.1.2, hmo.2.2.2.2.2⟩ hr9) ⟨ePc_blind G _ h, hrc, ePc_of hsa hP hS hE⟩ rfl (by rw [List.length_map]; exact hnp) hL.1 (by simp [List.map_append, List.map_reverse]; rfl) (lv_room hcw) hd hn) hS (fun _ _ q => q) (fun _ q => q) (fun _ _ q => q) (fun E ce q9 u t H1 L1 ht hvm hp hb hz hk1 hS1 hce hcv hcl9 => ?_) (fun r u t H1 L1 ht hvm hw hB hz hk1 hS1 => ?_)
  · obtain ⟨hE1, hB1⟩ := hb
    have hB2 : va_P G.2.1 vwCl (mkW G u.2) t.heap := hB1
    rw [ht] at hB2
    obtain ⟨h01, tgt, ⟨pre, x, suf, hsp, hpre, hcov, hx0, hxl, hxt9⟩, hV⟩ := kx u.1 u.2 (q9 : Nat) hp
    have g0 := hE.2.2.2.2.2.2.2.2.2
    have hcast : (Cond.castable E (exN u.1)).before args s = true := by
      rw [hE1]
      rcases h01 with h01 | h01
      · rw [h01]; exact g0.1.use rfl
      · rw [h01]; exact g0.2.1.use rfl
    have hV2 := hV ho ⟨trivial, trivial⟩ H1 L1 ls hL hB2 hS1
    rw [Nat.mul_add] at hV2
    refine vx_catch hc.2.2.2.1 pre x suf (hxt.trans hsp) (fun z hz9 => ?_) hcov hx0 (e5 _ hxl) hcast hce hcv hcl9 ?_
    · obtain ⟨a1, a2, a3⟩ := hpre z hz9
      refine Or.inr ⟨a2, _, e5 _ a3, ?_⟩
      rw [hE1, a1]
      exact g0.2.2.2.2.2
    · rw [hxt9]
      exact hV2
  · obtain ⟨hr1, hp1⟩ := hw
    have hB1 : va_P G.2.1 vwCl (mkW G u.2) t.heap := hB
    rw [ht] at hB1
    have := k1 u.1 u.2 hp1 ho ⟨trivial, hs'.2.2⟩ H1 L1 ls hL hB1 hS1
    rw [Nat.mul_add] at this
    rw [hr1]
    exact this
/-- a method with handlers, called -/
theorem V.callSw (hc : VC G p R s m args meth c own cc nL d) (hM : CwI l G y b mL hh d' mc' as h P) (hmo : MOw y b mL hh np) (hl : Cond.methodLink own idx y ∈ tblG)
    (hst : st0 = as.reverse ++ st) (hnp : as.length = np) (hdd : Nat.ble (d' + 1) d = true) (hm : Nat.ble mL 21 = true) (hcat : Nat.ble (catS st) 8 = true) (hn : n + mc' ≤ R.cells ∧ 6 * n + 6 * mc' ≤ R.slots) (hd : decode cc pc = .ok (.invokestatic idx, 3))
    (k1 : ∀ (x : Int) (h' : HP), P x h' → V G p l e R s m args below meth c Q nL (pc + 3) lo ((0, x) :: st) h' (n + mc')) : V G p l e R s m args below meth c Q nL pc lo st0 h n := by
  intro ho hs H L ls hL hP hS
  subst hst
  have hs' := okS_app.mp hs
  have hsa : okS as := okS_rev.mp hs'.1
  have hr9 := room_ok (mc := mc') hc hdd hm
  have e5 := hc.2.2.2.2.1
  have hE := hc.2.2.2.2.2.1
  have hcw := Nat.le_trans (catS_le G st) (Nat.le_of_ble_eq_true hcat)
  refine vx_calli (vx_runSX (As := as.map (cv G)) (rest := st.map (cv G)) ⟨hc.1, hc.2.1, hc.2.2.1, hc.2.2.2.1, e5⟩ hM (vx_cwSW np e5 (hmo.ws hl) rfl rfl rfl ⟨hmo.2.2.2.1.1, hmo.2.2.2.1.2, hmo.2.2.2.2⟩ hr9) ⟨ePc_blind G _ h, ePc_of hsa hP hS hE⟩ rfl (by rw [List.length_map]; exact hnp) hL.1 (by simp [List.map_append, List.map_reverse]) (lv_room hcw) hd hn) hS (fun _ _ q => q) (fun _ q => q) (fun _ _ q => q) (fun E ce q9 u t H1 L1 ht hvm hp hb hz hk1 hS1 hce hcv hcl9 => hp.elim) (fun r u t H1 L1 ht hvm hw hB hz hk1 hS1 => ?_)
  obtain ⟨hr1, hp1⟩ := hw
  have hB1 : va_P G.2.1 vwCl (mkW G u.2) t.heap := hB
  rw [ht] at hB1
  have := k1 u.1 u.2 hp1 ho ⟨trivial, hs'.2⟩ H1 L1 ls hL hB1 hS1
  rw [Nat.mul_add] at this
  rw [hr1]
  exact this
end VW
theorem tin (i : Nat) {w : Cond} (h : lw_tbl[i]? = some w) (hg : goodWord w = true) : w ∈ tblG := List.mem_filter.mpr ⟨List.mem_of_getElem? h, hg⟩
