/-! ends of methods; entries; throws; the rest of arithmetic -/
section VRet
variable {G : GG} {p : Program} {l : Launch} {e : Jvm.Env} {R : Room} {s : State} {m : MethodId} {args : Array Value} {below : List Frame} {meth : Method} {c : Code} {own : String} {cc : ByteArray} {nL d pc : Nat} {lo st : List TV} {h : HP} {n : Nat} {P : Int → HP → Prop} {PV : HP → Prop} {X : Nat → HP → Prop} {mc : Nat}
theorem V.iret (hc : VC G p R s m args meth c own cc nL d) {x : Int} (hr : meth.sig.returnType = some .int) (hd : decode cc pc = .ok (.ireturn, 1)) (hp : P x h) : V G p l e R s m args below meth c (MQ below (QI G P) args s 0 0 (va_Aof G)) nL pc lo [(0, x)] h 0 := by
  intro ho hs H L ls hL hP hS
  have hlocks := hc.2.2.2.2.2.2.1
  exact W.iret (v := Int32.ofInt x) hc.1 hc.2.1 hr (fun t ht hW => ⟨⟨_, (x, h), rfl, ⟨rfl, hp⟩, by show va_P G.2.1 vwCl (mkW G h) t.heap; rw [ht]; exact hP⟩, hS.F ht⟩) hS.2.2 hd hlocks
theorem V.zret (hc : VC G p R s m args meth c own cc nL d) {x : Int} (hr : meth.sig.returnType = some .boolean) (hd : decode cc pc = .ok (.ireturn, 1)) (hx : x = 0 ∨ x = 1) (hp : P x h) : V G p l e R s m args below meth c (MQ below (QI G P) args s 0 0 (va_Aof G)) nL pc lo [(0, x)] h 0 := by
  intro ho hs H L ls hL hP hS
  have hlocks := hc.2.2.2.2.2.2.1
  exact W.zret (v := Int32.ofInt x) hc.1 hc.2.1 hr (by rcases hx with rfl | rfl <;> decide) (fun t ht hW => ⟨⟨_, (x, h), rfl, ⟨rfl, hp⟩, by show va_P G.2.1 vwCl (mkW G h) t.heap; rw [ht]; exact hP⟩, hS.F ht⟩) hS.2.2 hd hlocks
theorem V.vret (hc : VC G p R s m args meth c own cc nL d) (hr : meth.sig.returnType = none) (hd : decode cc pc = .ok (.return_, 1)) (hp : PV h) : V G p l e R s m args below meth c (MQ below (QV G PV) args s 0 0 (va_Aof G)) nL pc lo [] h 0 := by
  intro ho hs H L ls hL hP hS
  have hlocks := hc.2.2.2.2.2.2.1
  exact W.vret hc.1 hc.2.1 hr (fun t ht hW => ⟨⟨h, rfl, hp, by show va_P G.2.1 vwCl (mkW G h) t.heap; rw [ht]; exact hP⟩, hS.F ht⟩) hS.2.2 hd hlocks
end VRet
section VEntry
variable {G : GG} {l : Launch} {y : MethodName} {b : ByteArray} {mL d mc : Nat} {ret : Option FieldType} {as lo : List TV} {h : HP} {P : Int → HP → Prop} {PV : HP → Prop} {X : Nat → HP → Prop}
def tagS : List TV → Bool
  | [] => true
  | q :: l => (match q.1 with | 1 => false | 2 => false | _ => true) && tagS l
theorem tagS_ok : ∀ {l : List TV}, tagS l = true → ∀ q ∈ l, q.1 ≠ 1 ∧ q.1 ≠ 2 := by
  intro l
  induction l with
  | nil => intro _ q hq; cases hq
  | cons a l ih =>
    intro ht q hq
    unfold tagS at ht
    rw [Bool.and_eq_true] at ht
    rcases List.mem_cons.mp hq with rfl | hq
    · refine ⟨fun e => ?_, fun e => ?_⟩
      · have := ht.1; rw [e] at this; cases this
      · have := ht.1; rw [e] at this; cases this
    · exact ih ht.2 q hq
theorem okS_un : ∀ (k : Nat), okS (List.replicate k (1, 0)) := by
  intro k
  induction k with
  | zero => exact trivial
  | succ k ih => exact ⟨trivial, ih⟩
/-- what the walk of a body is: from its entry, in every place where it's called -/
theorem V.entry {p : Program} {e : Jvm.Env} {R : Room} {s : State} {m : MethodId} {args : Array Value} {below : List Frame} {meth : Method} {c : Code} {Q : State → Prop}
    (hB : ePc G as h args s) (htag : tagS as = true) (hlen : Nat.ble as.length mL = true) (hlo : as ++ List.replicate (mL - as.length) (1, 0) = lo)
    (k : V G p l e R s m args below meth c Q mL 0 lo [] h 0) : W p l e R s m args below meth c s.heap [] 0 0 Q (entryFrame m args mL) := by
  obtain ⟨rfl, hs, hP, hE⟩ := hB
  rw [lg_entry_eq]
  have hL := LR.entry (G := G) (nL := mL) (tagS_ok htag) (Nat.le_of_ble_eq_true hlen)
  rw [hlo] at hL
  exact k (by rw [← hlo]; exact okS_app.mpr ⟨hs, okS_un _⟩) trivial s.heap [] _ hL hP va_S.rf
theorem CnI.of (hy : plainName y.cls = true) (htag : tagS as = true) (hlen : Nat.ble as.length mL = true) (hlo : as ++ List.replicate (mL - as.length) (1, 0) = lo)
    (body : ∀ (p : Program) (e : Jvm.Env) (s : State) (m : MethodId) (args : Array Value) (below : List Frame) (meth : Method) (c : Code), VC G p (rmD d 0) s m args meth c y.cls b mL d → meth.sig.returnType = ret → V G p l e (rmD d 0) s m args below meth c (MQ below (QI G P) args s 0 0 (va_Aof G)) mL 0 lo [] h 0) : CnI l G y b mL ret d as h P := by
  refine Met.ofW (cc := b) (maxL := mL) (ret := ret) hy rfl ?_
  intro p e s m args below meth c s₁ B hml hv
  have hts := atoms_spec (ws := Cond.code y b mL ret :: tblG) B.pre
  exact V.entry hv htag hlen hlo (body p e s m args below meth c ⟨B.exec, B.bytes, hml, findClass_of_methodNamed B.named, fun w hw => hts w (List.mem_cons_of_mem _ hw), hv.2.2.2, B.notSynchronized, Nat.le_refl _, Nat.le_refl _⟩ B.returns)
theorem CnV.of (hy : plainName y.cls = true) (htag : tagS as = true) (hlen : Nat.ble as.length mL = true) (hlo : as ++ List.replicate (mL - as.length) (1, 0) = lo)
    (body : ∀ (p : Program) (e : Jvm.Env) (s : State) (m : MethodId) (args : Array Value) (below : List Frame) (meth : Method) (c : Code), VC G p (rmD d 0) s m args meth c y.cls b mL d → meth.sig.returnType = none → V G p l e (rmD d 0) s m args below meth c (MQ below (QV G PV) args s 0 0 (va_Aof G)) mL 0 lo [] h 0) : CnV l G y b mL d as h PV := by
  refine Met.ofW (cc := b) (maxL := mL) (ret := none) hy rfl ?_
  intro p e s m args below meth c s₁ B hml hv
  have hts := atoms_spec (ws := Cond.code y b mL none :: tblG) B.pre
  exact V.entry hv htag hlen hlo (body p e s m args below meth c ⟨B.exec, B.bytes, hml, findClass_of_methodNamed B.named, fun w hw => hts w (List.mem_cons_of_mem _ hw), hv.2.2.2, B.notSynchronized, Nat.le_refl _, Nat.le_refl _⟩ B.returns)
end VEntry
