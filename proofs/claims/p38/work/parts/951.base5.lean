/-! contracts over the world; calls and returns; the rest of arithmetic -/
def ePc (G : GG) (as : List TV) (h : HP) : Array Value → State → Prop := fun a U => a = (as.map (cv G)).toArray ∧ okS as ∧ va_P G.2.1 vwCl (mkW G h) U.heap ∧ Env G U U.heap
def eWd (G : GG) (h : HP) (t : State) : Prop := va_P G.2.1 vwCl (mkW G h) t.heap
def QI (G : GG) (P : Int → HP → Prop) : Array Value → State → Outcome → State → Prop := va_Qi (fun (r : Int32) (u : Int × HP) => r = Int32.ofInt u.1 ∧ P u.1 u.2) (fun u t => eWd G u.2 t) (va_Aof G)
def QV (G : GG) (P : HP → Prop) : Array Value → State → Outcome → State → Prop := va_Qv (fun u : HP => P u) (fun u t => eWd G u t) (va_Aof G)
def CnI (l : Launch) (G : GG) (y : MethodName) (b : ByteArray) (mL : Nat) (ret : Option FieldType) (d : Nat) (as : List TV) (h : HP) (P : Int → HP → Prop) : Prop :=
  Met l y (Cond.code y b mL ret :: tblG) (rmD d 0) (ePc G as h) (QI G P) 0 0 (va_Aof G)
def CnV (l : Launch) (G : GG) (y : MethodName) (b : ByteArray) (mL : Nat) (d : Nat) (as : List TV) (h : HP) (P : HP → Prop) : Prop :=
  Met l y (Cond.code y b mL none :: tblG) (rmD d 0) (ePc G as h) (QV G P) 0 0 (va_Aof G)
/-- facts of a method: instance (v) or static (s) -/
def MOv (y : MethodName) (b : ByteArray) (mL : Nat) (ret : Option FieldType) (n : Nat) : Prop :=
  Cond.instanceMethod y ∈ tblG ∧ Cond.selects y.cls y y ∈ tblG ∧ Cond.initialized y.cls ∈ tblG ∧ Cond.code y b mL ret ∈ tblG ∧ (y.cls ≠ "java/lang/invoke/MethodHandle" ∧ y.cls ≠ "java/lang/invoke/VarHandle") ∧ (parseMethodDescriptor y.desc).map (fun d => d.parameters.length) = some n
def MOs (y : MethodName) (b : ByteArray) (mL : Nat) (ret : Option FieldType) (n : Nat) : Prop :=
  Cond.static y ∈ tblG ∧ Cond.initialized y.cls ∈ tblG ∧ Cond.code y b mL ret ∈ tblG ∧ (y.cls ≠ "java/lang/invoke/MethodHandle" ∧ y.cls ≠ "java/lang/invoke/VarHandle") ∧ (parseMethodDescriptor y.desc).map (fun d => d.parameters.length) = some n
theorem tblG_good {ws : List Cond} (h : ∀ w ∈ ws, w ∈ tblG) : GoodIn tblG ws := fun w hw => ⟨h w hw, good_of_word (List.mem_filter.mp (h w hw)).2⟩
theorem MOv.ws {y : MethodName} {b : ByteArray} {mL n : Nat} {ret : Option FieldType} (h : MOv y b mL ret n) {own : String} {idx : Nat} (hl : Cond.methodLink own idx y ∈ tblG) : GoodIn tblG (wsV own idx y.cls y (Cond.code y b mL ret :: tblG)) := by
  obtain ⟨h1, h2, h3, h4, h5, h6⟩ := h
  refine tblG_good (fun w hw => ?_)
  unfold wsV at hw
  rcases List.mem_append.mp hw with q | q
  · simp only [List.mem_cons, List.not_mem_nil, or_false] at q
    rcases q with rfl | rfl | rfl | rfl
    · exact hl
    · exact h1
    · exact h2
    · exact h3
  · rcases List.mem_cons.mp q with rfl | q
    · exact h4
    · exact q
theorem MOs.ws {y : MethodName} {b : ByteArray} {mL n : Nat} {ret : Option FieldType} (h : MOs y b mL ret n) {own : String} {idx : Nat} (hl : Cond.methodLink own idx y ∈ tblG) : GoodIn tblG (va_wsS own idx y (Cond.code y b mL ret :: tblG)) := by
  obtain ⟨h1, h3, h4, h5, h6⟩ := h
  refine tblG_good (fun w hw => ?_)
  unfold va_wsS at hw
  rcases List.mem_append.mp hw with q | q
  · simp only [List.mem_cons, List.not_mem_nil, or_false] at q
    rcases q with rfl | rfl | rfl
    · exact hl
    · exact h1
    · exact h3
  · rcases List.mem_cons.mp q with rfl | q
    · exact h4
    · exact q
theorem ePc_blind (G : GG) (as : List TV) (h : HP) : FrameBlind (ePc G as h) := by
  intro a U g mk ⟨h1, h2, h3, h4⟩
  exact ⟨h1, h2, h3, Env.moved (u := U) (U := U.calling g mk a) (State.WarmedH.refl U) h4⟩
theorem ePc_of {G : GG} {as : List TV} {h : HP} {s : State} {H : Heap} {L : List Loc} (hs : okS as) (hP : va_P G.2.1 vwCl (mkW G h) H) (hS : va_S (va_Aof G) s.heap H L) (hE : Env G s s.heap) : ∀ U : State, U.heap = H → s.WarmedH U.vm → ePc G as h (as.map (cv G)).toArray U := by
  intro U hU hW
  refine ⟨rfl, hs, by rw [hU]; exact hP, ?_⟩
  rw [hU]
  exact (hE.kept hS.1 hS.2.1).moved hW
def catS : List TV → Nat
  | [] => 0
  | q :: l => (match q.1 with | 2 => 2 | _ => 1) + catS l
theorem catS_le (G : GG) : ∀ l : List TV, ((l.map (cv G)).map fun v => v.category).sum ≤ catS l := by
  intro l
  induction l with
  | nil => exact Nat.le_refl _
  | cons q l ih =>
    have : (cv G q).category ≤ (match q.1 with | 2 => 2 | _ => 1) := by
      split
      · unfold Value.category; split <;> omega
      · rename_i hq
        rw [cv_cat G q (fun e => hq e)]
        exact Nat.le_refl _
    show (cv G q).category + ((l.map (cv G)).map fun v => v.category).sum ≤ (match q.1 with | 2 => 2 | _ => 1) + catS l
    omega
section VCall
variable {G : GG} {p : Program} {l : Launch} {e : Jvm.Env} {R : Room} {s : State} {m : MethodId} {args : Array Value} {below : List Frame} {meth : Method} {c : Code} {Q : State → Prop} {own : String} {cc : ByteArray} {nL d pc : Nat} {lo st : List TV} {h : HP} {n : Nat}
variable {y : MethodName} {b : ByteArray} {mL d' np idx k ci : Nat} {i : Int} {ret : Option FieldType} {as st0 : List TV} {P : Int → HP → Prop} {PV : HP → Prop}
theorem room_ok (hc : VC G p R s m args meth c own cc nL d) (hd : Nat.ble (d' + 1) d = true) (hm : Nat.ble mL 21 = true) (mc : Nat) : (rmD d' mc).frames + 1 ≤ R.frames ∧ 8 + (mL + 11) + (rmD d' mc).locals ≤ R.locals := by
  have h1 := Nat.le_of_ble_eq_true hd
  have h2 := Nat.le_of_ble_eq_true hm
  obtain ⟨e1, e2, e3, e4, e5, e6, e7, e8, e9⟩ := hc
  show d' + 1 ≤ R.frames ∧ 8 + (mL + 11) + 40 * d' ≤ R.locals
  omega
theorem V.callVI (hc : VC G p R s m args meth c own cc nL d) (hM : CnI l G y b mL ret d' ((k + 10, i) :: as) h P) (hmo : MOv y b mL ret np) (hl : Cond.methodLink own idx y ∈ tblG) (hcl : vwCl[ci]?.map (fun q => q.1) = some y.cls) (hk : kCls k = ci) (hci : Nat.ble (ci + 1) 90 = true)
    (hst : st0 = as.reverse ++ (k + 10, i) :: st) (hnp : as.length = np) (hdd : Nat.ble (d' + 1) d = true) (hm : Nat.ble mL 21 = true) (hcat : Nat.ble (catS st) 8 = true) (hn : n ≤ R.cells ∧ 6 * n ≤ R.slots) (hd : decode cc pc = .ok (.invokevirtual idx, 3))
    (k1 : ∀ (x : Int) (h' : HP), P x h' → V G p l e R s m args below meth c Q nL (pc + 3) lo ((0, x) :: st) h' n) : V G p l e R s m args below meth c Q nL pc lo st0 h n := by
  intro ho hs H L ls hL hP hS
  subst hst
  have hs' := okS_app.mp hs
  have hsa : okS ((k + 10, i) :: as) := ⟨hs'.2.1, okS_rev.mp hs'.1⟩
  have hw := mkW_at G h (k := k) (i := i) hs'.2.1
  rw [cellR_obj hk hci] at hw
  obtain ⟨q, hq⟩ : ∃ q, vwCl[ci]? = some q := by
    cases hz : vwCl[ci]? with
    | none => rw [hz] at hcl; cases hcl
    | some q => exact ⟨q, rfl⟩
  rw [hq] at hcl
  have hq1 : q.1 = y.cls := by simpa using hcl
  have hrc := va_recv hc.2.2.2.2.2.1.1 hP hq hw
  rw [hq1] at hrc
  have hr9 := room_ok (mc := 0) hc hdd hm
  have e5 := hc.2.2.2.2.1
  have hE := hc.2.2.2.2.2.1
  have hcw := Nat.le_trans (catS_le G st) (Nat.le_of_ble_eq_true hcat)
  refine va_calli (va_runV (As := as.map (cv G)) (rest := st.map (cv G)) ⟨hc.1, hc.2.1, hc.2.2.1, hc.2.2.2.1, e5⟩ hM (cwV np e5 (hmo.ws hl) rfl rfl rfl ⟨rfl, hmo.2.2.2.2.1.1, hmo.2.2.2.2.1.2, hmo.2.2.2.2.2⟩ hr9) ⟨ePc_blind G _ h, hrc, ePc_of hsa hP hS hE⟩ rfl (by rw [List.length_map]; exact hnp) hL.1 (by simp [List.map_append, List.map_reverse]; rfl) (lv_room hcw) hd ⟨hn.1, hn.2⟩) hS (fun _ _ q => q) (fun _ q => q) (fun r u t H1 L1 ht hvm hw hB hz hk1 hS1 => ?_)
  obtain ⟨hr1, hp1⟩ := hw
  have hB1 : va_P G.2.1 vwCl (mkW G u.2) t.heap := hB
  rw [ht] at hB1
  have := k1 u.1 u.2 hp1 ho ⟨trivial, hs'.2.2⟩ H1 L1 ls hL hB1 hS1
  rw [hr1]
  exact this
theorem V.callVV (hc : VC G p R s m args meth c own cc nL d) (hM : CnV l G y b mL d' ((k + 10, i) :: as) h PV) (hmo : MOv y b mL none np) (hl : Cond.methodLink own idx y ∈ tblG) (hcl : vwCl[ci]?.map (fun q => q.1) = some y.cls) (hk : kCls k = ci) (hci : Nat.ble (ci + 1) 90 = true)
    (hst : st0 = as.reverse ++ (k + 10, i) :: st) (hnp : as.length = np) (hdd : Nat.ble (d' + 1) d = true) (hm : Nat.ble mL 21 = true) (hcat : Nat.ble (catS st) 8 = true) (hn : n ≤ R.cells ∧ 6 * n ≤ R.slots) (hd : decode cc pc = .ok (.invokevirtual idx, 3))
    (k1 : ∀ (h' : HP), PV h' → V G p l e R s m args below meth c Q nL (pc + 3) lo st h' n) : V G p l e R s m args below meth c Q nL pc lo st0 h n := by
  intro ho hs H L ls hL hP hS
  subst hst
  have hs' := okS_app.mp hs
  have hsa : okS ((k + 10, i) :: as) := ⟨hs'.2.1, okS_rev.mp hs'.1⟩
  have hw := mkW_at G h (k := k) (i := i) hs'.2.1
  rw [cellR_obj hk hci] at hw
  obtain ⟨q, hq⟩ : ∃ q, vwCl[ci]? = some q := by
    cases hz : vwCl[ci]? with
    | none => rw [hz] at hcl; cases hcl
    | some q => exact ⟨q, rfl⟩
  rw [hq] at hcl
  have hq1 : q.1 = y.cls := by simpa using hcl
  have hrc := va_recv hc.2.2.2.2.2.1.1 hP hq hw
  rw [hq1] at hrc
  have hr9 := room_ok (mc := 0) hc hdd hm
  have e5 := hc.2.2.2.2.1
  have hE := hc.2.2.2.2.2.1
  have hcw := Nat.le_trans (catS_le G st) (Nat.le_of_ble_eq_true hcat)
  refine va_callv (va_runV (As := as.map (cv G)) (rest := st.map (cv G)) ⟨hc.1, hc.2.1, hc.2.2.1, hc.2.2.2.1, e5⟩ hM (cwV np e5 (hmo.ws hl) rfl rfl rfl ⟨rfl, hmo.2.2.2.2.1.1, hmo.2.2.2.2.1.2, hmo.2.2.2.2.2⟩ hr9) ⟨ePc_blind G _ h, hrc, ePc_of hsa hP hS hE⟩ rfl (by rw [List.length_map]; exact hnp) hL.1 (by simp [List.map_append, List.map_reverse]; rfl) (lv_room hcw) hd ⟨hn.1, hn.2⟩) hS (fun _ _ q => q) (fun _ q => q) (fun u t H1 L1 ht hvm hw hB hz hk1 hS1 => ?_)
  have hB1 : va_P G.2.1 vwCl (mkW G u) t.heap := hB
  rw [ht] at hB1
  exact k1 u hw ho hs'.2.2 H1 L1 ls hL hB1 hS1
theorem V.callSI (hc : VC G p R s m args meth c own cc nL d) (hM : CnI l G y b mL ret d' as h P) (hmo : MOs y b mL ret np) (hl : Cond.methodLink own idx y ∈ tblG)
    (hst : st0 = as.reverse ++ st) (hnp : as.length = np) (hdd : Nat.ble (d' + 1) d = true) (hm : Nat.ble mL 21 = true) (hcat : Nat.ble (catS st) 8 = true) (hn : n ≤ R.cells ∧ 6 * n ≤ R.slots) (hd : decode cc pc = .ok (.invokestatic idx, 3))
    (k1 : ∀ (x : Int) (h' : HP), P x h' → V G p l e R s m args below meth c Q nL (pc + 3) lo ((0, x) :: st) h' n) : V G p l e R s m args below meth c Q nL pc lo st0 h n := by
  intro ho hs H L ls hL hP hS
  subst hst
  have hs' := okS_app.mp hs
  have hsa : okS as := okS_rev.mp hs'.1
  have hr9 := room_ok (mc := 0) hc hdd hm
  have e5 := hc.2.2.2.2.1
  have hE := hc.2.2.2.2.2.1
  have hcw := Nat.le_trans (catS_le G st) (Nat.le_of_ble_eq_true hcat)
  refine va_calli (va_runS (As := as.map (cv G)) (rest := st.map (cv G)) ⟨hc.1, hc.2.1, hc.2.2.1, hc.2.2.2.1, e5⟩ hM (va_cwS np e5 (hmo.ws hl) rfl rfl rfl ⟨hmo.2.2.2.1.1, hmo.2.2.2.1.2, hmo.2.2.2.2⟩ hr9) ⟨ePc_blind G _ h, ePc_of hsa hP hS hE⟩ rfl (by rw [List.length_map]; exact hnp) hL.1 (by simp [List.map_append, List.map_reverse]) (lv_room hcw) hd ⟨hn.1, hn.2⟩) hS (fun _ _ q => q) (fun _ q => q) (fun r u t H1 L1 ht hvm hw hB hz hk1 hS1 => ?_)
  obtain ⟨hr1, hp1⟩ := hw
  have hB1 : va_P G.2.1 vwCl (mkW G u.2) t.heap := hB
  rw [ht] at hB1
  have := k1 u.1 u.2 hp1 ho ⟨trivial, hs'.2⟩ H1 L1 ls hL hB1 hS1
  rw [hr1]
  exact this
theorem V.callSV (hc : VC G p R s m args meth c own cc nL d) (hM : CnV l G y b mL d' as h PV) (hmo : MOs y b mL none np) (hl : Cond.methodLink own idx y ∈ tblG)
    (hst : st0 = as.reverse ++ st) (hnp : as.length = np) (hdd : Nat.ble (d' + 1) d = true) (hm : Nat.ble mL 21 = true) (hcat : Nat.ble (catS st) 8 = true) (hn : n ≤ R.cells ∧ 6 * n ≤ R.slots) (hd : decode cc pc = .ok (.invokestatic idx, 3))
    (k1 : ∀ (h' : HP), PV h' → V G p l e R s m args below meth c Q nL (pc + 3) lo st h' n) : V G p l e R s m args below meth c Q nL pc lo st0 h n := by
  intro ho hs H L ls hL hP hS
  subst hst
  have hs' := okS_app.mp hs
  have hsa : okS as := okS_rev.mp hs'.1
  have hr9 := room_ok (mc := 0) hc hdd hm
  have e5 := hc.2.2.2.2.1
  have hE := hc.2.2.2.2.2.1
  have hcw := Nat.le_trans (catS_le G st) (Nat.le_of_ble_eq_true hcat)
  refine va_callv (va_runS (As := as.map (cv G)) (rest := st.map (cv G)) ⟨hc.1, hc.2.1, hc.2.2.1, hc.2.2.2.1, e5⟩ hM (va_cwS np e5 (hmo.ws hl) rfl rfl rfl ⟨hmo.2.2.2.1.1, hmo.2.2.2.1.2, hmo.2.2.2.2⟩ hr9) ⟨ePc_blind G _ h, ePc_of hsa hP hS hE⟩ rfl (by rw [List.length_map]; exact hnp) hL.1 (by simp [List.map_append, List.map_reverse]) (lv_room hcw) hd ⟨hn.1, hn.2⟩) hS (fun _ _ q => q) (fun _ q => q) (fun u t H1 L1 ht hvm hw hB hz hk1 hS1 => ?_)
  have hB1 : va_P G.2.1 vwCl (mkW G u) t.heap := hB
  rw [ht] at hB1
  exact k1 u hw ho hs'.2 H1 L1 ls hL hB1 hS1
end VCall
