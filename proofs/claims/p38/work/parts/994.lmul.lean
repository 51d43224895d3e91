/-! rows of rows, made by one instruction: N rows of three empty places -/
def rwO (cA : ClassId) (N h0 i : Nat) : Cell := arrV cA N (fun j => if j < i then .ref (h0 + 1 + j) else .null)
def rwI (cB : ClassId) : Cell := arrV cB 3 (fun _ => .null)
def rwS (T : State) (cA cB : ClassId) (N : Nat) : Nat → State
  | 0 => T.pushCell (rwO cA N T.heap.size 0)
  | i + 1 => ((rwS T cA cB N i).pushCell (rwI cB)).setCell T.heap.size (rwO cA N T.heap.size (i + 1))
theorem rwO_next {cA : ClassId} {N h0 i : Nat} : (rwO cA N h0 i).setSlot i (.ref (h0 + 1 + i)) = rwO cA N h0 (i + 1) := by
  unfold rwO
  rw [arrV_store]
  congr 1
  funext j
  show (if j = i then Value.ref (h0 + 1 + i) else (if j < i then .ref (h0 + 1 + j) else .null)) = if j < i + 1 then .ref (h0 + 1 + j) else .null
  by_cases c : j = i
  · rw [if_pos c, if_pos (by omega), c]
  · rw [if_neg c]
    by_cases d : j < i
    · rw [if_pos d, if_pos (by omega)]
    · rw [if_neg d, if_neg (by omega)]
theorem rwS_facts (T : State) (cA cB : ClassId) (N : Nat) : ∀ i : Nat, (rwS T cA cB N i).heap.size = T.heap.size + 1 + i ∧ (rwS T cA cB N i).heap[T.heap.size]? = some (rwO cA N T.heap.size i) ∧ (rwS T cA cB N i).vm = T.vm ∧ (rwS T cA cB N i).slotsUsed = T.slotsUsed + N + i * 3 ∧ (∀ q, q < T.heap.size → (rwS T cA cB N i).heap[q]? = T.heap[q]?) ∧ ∀ j, j < i → (rwS T cA cB N i).heap[T.heap.size + 1 + j]? = some (rwI cB) := by
  intro i
  induction i with
  | zero =>
    refine ⟨by simp [rwS], State.heap_pushCell_size _ _, rfl, ?_, fun q hq => State.heap_pushCell_of_lt _ _ hq, fun j hj => absurd hj (Nat.not_lt_zero j)⟩
    show T.slotsUsed + (rwO cA N T.heap.size 0).slots.size = _
    unfold rwO
    rw [arrV_size]
    omega
  | succ i ih =>
    obtain ⟨a1, a2, a3, a4, a5, a6⟩ := ih
    have hlt : T.heap.size < (rwS T cA cB N i).heap.size := by omega
    have b2 : ((rwS T cA cB N i).pushCell (rwI cB)).heap[T.heap.size]? = some (rwO cA N T.heap.size i) := by rw [State.heap_pushCell_of_lt (h := hlt)]; exact a2
    refine ⟨?_, State.heap_setCell_self b2, a3, ?_, fun q hq => ?_, fun j hj => ?_⟩
    · simp [rwS, State.setCell, a1]
      omega
    · show (rwS T cA cB N i).slotsUsed + (rwI cB).slots.size = _
      unfold rwI
      rw [arrV_size, a4]
      omega
    · show (((rwS T cA cB N i).pushCell (rwI cB)).setCell T.heap.size _).heap[q]? = _
      rw [State.heap_setCell_other (Nat.ne_of_gt hq), State.heap_pushCell_of_lt (h := show q < (rwS T cA cB N i).heap.size by omega)]
      exact a5 q hq
    · show (((rwS T cA cB N i).pushCell (rwI cB)).setCell T.heap.size _).heap[T.heap.size + 1 + j]? = _
      rw [State.heap_setCell_other (show T.heap.size ≠ T.heap.size + 1 + j by omega)]
      by_cases c : j = i
      · have e : T.heap.size + 1 + j = (rwS T cA cB N i).heap.size := by rw [a1, c]
        rw [e]
        exact State.heap_pushCell_size _ _
      · rw [State.heap_pushCell_of_lt (h := show T.heap.size + 1 + j < (rwS T cA cB N i).heap.size by omega)]
        exact a6 j (by omega)
theorem rwS_top (T : State) (f : JFrame) (cA cB : ClassId) (N : Nat) : ∀ i : Nat, rwS (T.setTop f) cA cB N i = (rwS T cA cB N i).setTop f := by
  intro i
  induction i with
  | zero => rfl
  | succ i ih =>
    show ((rwS (T.setTop f) cA cB N i).pushCell (rwI cB)).setCell (T.setTop f).heap.size (rwO cA N (T.setTop f).heap.size (i + 1)) = _
    rw [ih]
    rfl
section MUL
variable {p : Program} {l : Launch} {e : Jvm.Env} {R : Room} {s : State} {m : MethodId} {args : Array Value} {below : List Frame} {meth : Method} {c : Code} {T : State} {locs : List Loc} {cells slots : Nat}
theorem rwS_stand (X : Stand p l e R s m args below meth c T locs cells slots) (cA cB : ClassId) (N : Nat) : ∀ i : Nat, ∃ L : List Loc, (∀ q ∈ L, q ∈ locs ∨ q.base = T.heap.size) ∧ Stand p l e R s m args below meth c (rwS T cA cB N i) L (cells + 1 + i) (slots + N + i * 3) := by
  intro i
  induction i with
  | zero =>
    have h := X.pushed (rwO cA N T.heap.size 0)
    have e : (rwO cA N T.heap.size 0).slots.size = N := by unfold rwO; rw [arrV_size]
    rw [e] at h
    refine ⟨locs, fun q hq => Or.inl hq, ?_⟩
    rw [show slots + N + 0 * 3 = slots + N by omega]
    exact h
  | succ i ih =>
    obtain ⟨L, hL, Xi⟩ := ih
    obtain ⟨a1, a2, -⟩ := rwS_facts T cA cB N i
    have hlt : T.heap.size < (rwS T cA cB N i).heap.size := by omega
    have b2 : ((rwS T cA cB N i).pushCell (rwI cB)).heap[T.heap.size]? = some (rwO cA N T.heap.size i) := by rw [State.heap_pushCell_of_lt (h := hlt)]; exact a2
    have h := (Xi.pushed (rwI cB)).stored b2 i (.ref (T.heap.size + 1 + i))
    rw [rwO_next] at h
    have e : (rwI cB).slots.size = 3 := by unfold rwI; rw [arrV_size]
    rw [e] at h
    refine ⟨L ++ [⟨T.heap.size, i⟩], fun q hq => ?_, ?_⟩
    · rcases List.mem_append.mp hq with z | z
      · exact hL q z
      · rw [List.mem_singleton.mp z]; exact Or.inr rfl
    · have e2 : slots + N + (i + 1) * 3 = slots + N + i * 3 + 3 := by omega
      rw [e2]
      exact h
end MUL
section MUW
variable {E : CtlPost} {e : Jvm.Env} {d : Bool} {acts : List Action} {s : State}
theorem rw_new {cA comp : ClassId} {k : Class} {ty : FieldType} {N : Nat} (hk : s.vm.classes[cA]? = some k) (hkind : k.kind = .array comp ty) (href : ty.isReference = true) (hlim : ¬ N > e.platform.arrayLengthLimit) (hhp : ¬ N * componentBytes ty > e.platform.maxHeapBytes) {Q : Addr → Pre}
    (h1 : s.heap.size < e.platform.maxCells) (h2 : s.slotsUsed + N ≤ e.platform.maxSlots) (hq : Q s.heap.size d acts (s.pushCell (arrV cA N (fun _ => .null)))) : wp (Jvm.newArray cA N .null) Q E e d acts s := by
  rw [← arrV_new] at hq
  have hnull : fits ty .null = true := by cases ty <;> simp [FieldType.isReference] at href <;> rfl
  have hfit : ∀ i v, (Array.replicate N Value.null)[i]? = some v → s.fitsSlot cA .none i v = true := by
    intro i v hv
    rw [Array.getElem?_replicate] at hv
    split at hv
    · cases hv
      simp [State.fitsSlot, State.slotType?, hk, hkind, hnull]
    · cases hv
  have hacts : allocActs (Array.replicate N Value.null) s.heap.size acts = acts := by
    unfold allocActs
    rw [if_pos (by rw [Array.all_replicate]; split <;> rfl)]
  simp only [Jvm.newArray, Jvm.arrayFits, wp_bind', W.ask, W.ite, hlim, if_false, wp_pure', W.theClass, hk, hkind, hhp, W.alloc, W.stop, Option.some.injEq, exists_eq_left', Array.size_replicate, hacts]
  rw [if_neg (by omega)]
  exact ⟨h1, h2, hfit, hq⟩
/-- the model's own making, for lengths N and 3 -/
theorem rw_make {cA cB cC : ClassId} {kA kB : Class} {N : Nat} (hN : N ≤ 1000) (hkA : s.vm.classes[cA]? = some kA) (hkindA : kA.kind = .array cB (.array (.array .int))) (hkB : s.vm.classes[cB]? = some kB) (hkindB : kB.kind = .array cC (.array .int)) (hlim : 1000 ≤ e.platform.arrayLengthLimit) (hhp : 4000 ≤ e.platform.maxHeapBytes)
    (hc : s.heap.size + 1 + N ≤ e.platform.maxCells) (hs : s.slotsUsed + N + N * 3 ≤ e.platform.maxSlots) {Q : Addr → Pre} (hq : ∀ d' acts', Q s.heap.size d' acts' (rwS s cA cB N N)) : wp (multianewarray.make cA [Int32.ofNat N, 3]) Q E e d acts s := by
  have n0 : ¬ (Int32.ofNat N) < 0 := by
    have := (ofInt_lt (x := (N : Int)) (y := 0) (by unfold inR; omega) inR_0)
    rw [Int32.ofInt_eq_ofNat] at this
    exact fun q => by have := this.mp q; omega
  have nc : (Int32.ofNat N).toNatClampNeg = N := by
    have := ofInt_clamp (x := (N : Int)) (by omega) (by omega)
    rw [Int32.ofInt_eq_ofNat] at this
    omega
  have cb : ∀ t : FieldType, componentBytes (.array t) = 4 := fun t => rfl
  rw [multianewarray.make]
  simp only [wp_bind', W.ite, n0, if_false, wp_pure', W.theClass, hkA, hkindA, Option.some.injEq, exists_eq_left']
  rw [nc]
  refine rw_new hkA hkindA rfl (by omega) (by rw [cb]; omega) (by omega) (by omega) ?_
  have hf : ([3] : List Int32).find? (· < 0) = none := by decide
  simp only [hf]
  rw [ite_self, wp_bind', Std.Legacy.Range.forIn_eq_forIn_range']
  have hsz : ([:N] : Std.Legacy.Range).size = N := by simp [Std.Legacy.Range.size]
  rw [hsz]
  show wp (forIn (List.range' 0 N 1) PUnit.unit _) _ E e d acts _
  have e0 : s.pushCell (arrV cA N (fun _ => .null)) = rwS s cA cB N 0 := by
    rfl
  rw [e0]
  refine wp_forIn_inv (fun rest s' => ∃ i, i ≤ N ∧ rest = List.range' i (N - i) ∧ s' = rwS s cA cB N i) _ _ ⟨0, Nat.zero_le _, rfl, rfl⟩ ?_ ?_
  · rintro x rest s' d' acts' Q' ⟨i, hi, hl, rfl⟩ hnext
    have hlt : i < N := by
      rcases Nat.lt_or_ge i N with h | h
      · exact h
      · rw [show N - i = 0 by omega] at hl
        cases hl
    obtain ⟨rfl, hrest⟩ : x = i ∧ rest = List.range' (i + 1) (N - (i + 1)) := by
      rw [show N - i = (N - (i + 1)) + 1 by omega, List.range'_succ] at hl
      exact ⟨(List.cons.inj hl).1, (List.cons.inj hl).2⟩
    obtain ⟨a1, a2, a3, a4, -⟩ := rwS_facts s cA cB N x
    simp only [wp_bind']
    rw [multianewarray.make]
    have m0 : ¬ (3 : Int32) < 0 := by decide
    have mc : (3 : Int32).toNatClampNeg = 3 := by decide
    have hkB' : (rwS s cA cB N x).vm.classes[cB]? = some kB := by rw [a3]; exact hkB
    simp only [wp_bind', W.ite, m0, if_false, wp_pure', W.theClass, hkB', hkindB, Option.some.injEq, exists_eq_left']
    rw [mc, show defaultValue (.array .int) = Value.null from rfl]
    refine rw_new hkB' hkindB rfl (by omega) (by rw [cb]; omega) (by omega) (by omega) ?_
    have hlt0 : s.heap.size < (rwS s cA cB N x).heap.size := by omega
    simp only [wp_bind', W.writeLoc, wp_pure']
    refine ⟨rwO cA N s.heap.size x, by rw [State.heap_pushCell_of_lt (h := hlt0)]; exact a2, (fun z => nomatch z), (by unfold rwO; rw [arrV_size]; exact hlt), ?_, hnext _ _ _ ⟨x + 1, hlt, hrest, ?_⟩⟩
    · show State.fitsSlot _ cA .none x _ = true
      have hkA' : (rwS s cA cB N x).vm.classes[cA]? = some kA := by
        rw [a3]; exact hkA
      simp [State.fitsSlot, State.slotType?, hkA', hkindA, fits]
    · show ((rwS s cA cB N x).pushCell (rwI cB)).setCell s.heap.size ((rwO cA N s.heap.size x).setSlot x (.ref (rwS s cA cB N x).heap.size)) = rwS s cA cB N (x + 1)
      rw [a1, rwO_next]
      rfl
  · rintro s' d' acts' ⟨i, hi, hl, rfl⟩
    have : i = N := by
      rcases Nat.lt_or_ge i N with h | h
      · rw [show N - i = (N - (i + 1)) + 1 by omega, List.range'_succ] at hl
        cases hl
      · omega
    subst this
    exact hq _ _
end MUW
section MUX
variable {p : Program} {l : Launch} {e : Jvm.Env} {R : Room} {s : State} {m : MethodId} {args : Array Value} {below : List Frame} {meth : Method} {c : Code} {H : Heap} {locs : List Loc} {cells slots : Nat} {Q : State → Prop}
theorem W.rows {cc : ByteArray} (hexec : p.tables.exec = Jvm.exec) (hb : c.code = cc) {own nm : String} {index : Nat} {cA cB cC : ClassId} {kA kB : Class} (hown : s.vm.findClass own = some m.cls) (hclink : (Cond.classLink own index nm).before args s = true) (hfc : s.vm.findClass nm = some cA)
    (hkA : s.vm.classes[cA]? = some kA) (hkindA : kA.kind = .array cB (.array (.array .int))) (hkB : s.vm.classes[cB]? = some kB) (hkindB : kB.kind = .array cC (.array .int)) {N : Nat} (hN : N ≤ 1000)
    {g : JFrame} (hg : g.method = m) (hdg : decode cc g.pc = .ok (.multianewarray index 2, 4)) {rest : List Value} (hstack : g.stack = .int 3 :: .int (Int32.ofNat N) :: rest) (hcells : cells + (1 + N) ≤ R.cells) (hslots : slots + (N + N * 3) ≤ R.slots)
    (kk : ∀ (H1 : Heap) (L : List Loc), H1.size = H.size + 1 + N → H1[H.size]? = some (arrV cA N (fun j => .ref (H.size + 1 + j))) → (∀ j, j < N → H1[H.size + 1 + j]? = some (arrV cB 3 (fun _ => .null))) → (∀ q, q < H.size → H1[q]? = H[q]?) → (∀ q ∈ L, q ∈ locs ∨ q.base = H.size) →
      W p l e R s m args below meth c H1 L (cells + 1 + N) (slots + N + N * 3) Q { g with pc := g.pc + 4, stack := .ref H.size :: rest }) : W p l e R s m args below meth c H locs cells slots Q g := by
  intro T hT X
  subst hT; subst hb; subst hg
  have hpl : e.platform.magicAccessors = ({} : Platform).magicAccessors := by rw [X.admits.platform]
  obtain ⟨c0, hfc0, hcl⟩ := Cond.classLink_spec hown hclink e.platform hpl
  cases hfc.symm.trans hfc0
  obtain ⟨hg₁, hwarm₁, hready₁⟩ := State.classEntry (e := e) X.warmed hcl
  generalize T.vm.noted g.method.cls index (.cls cA) = vm₁ at hg₁ hwarm₁ hready₁
  obtain ⟨kA₁, hkA₁, heA⟩ := hwarm₁.alike.2.2 _ _ hkA
  obtain ⟨kB₁, hkB₁, heB⟩ := hwarm₁.alike.2.2 _ _ hkB
  have hkindA₁ : kA₁.kind = .array cB (.array (.array .int)) := by rw [heA]; exact hkindA
  have hkindB₁ : kB₁.kind = .array cC (.array .int) := by rw [heB]; exact hkindB
  have X₁ := X.noted hwarm₁
  obtain ⟨hr1, hr2⟩ := X.roomAbove hcells hslots
  obtain ⟨L, hL, X₂⟩ := rwS_stand X₁ cA cB N N
  obtain ⟨a1, a2, -, -, a5, a6⟩ := rwS_facts (T.setVm vm₁) cA cB N N
  have b2 : (rwS (T.setVm vm₁) cA cB N N).heap[T.heap.size]? = some (arrV cA N (fun j => .ref (T.heap.size + 1 + j))) := by
    have a2' : (rwS (T.setVm vm₁) cA cB N N).heap[T.heap.size]? = some (rwO cA N T.heap.size N) := a2
    rw [a2']
    congr 1
    unfold rwO arrV
    congr 1
    congr 1
    funext j
    show (if j.1 < N then Value.ref (T.heap.size + 1 + j.1) else Value.null) = _
    rw [if_pos j.2]
  obtain ⟨t', s1, s2⟩ := kk _ L a1 b2 a6 a5 hL _ rfl X₂
  refine ⟨t', ?_, s2⟩
  have hl1 : 1000 ≤ e.platform.arrayLengthLimit := by rw [Launch.admits_arrayLengthLimit X.admits]; decide
  have hl2 : 4000 ≤ e.platform.maxHeapBytes := by rw [Launch.admits_maxHeapBytes X.admits]; decide
  jvm_step X.here [hexec, hdg]
  simp only [multianewarray.sem, wp_bind', W.resolveClassAt_links (State.method?_setTop g X.here.top) hg₁]
  rw [W.popN, if_neg (by decide)]
  refine ⟨g, State.topJava?_setTop' (s := T.setVm vm₁) g X.here.top, [.int (Int32.ofNat N), .int 3], rest, rfl, hstack, ?_⟩
  simp only [List.mapM_cons, List.mapM_nil, wp_bind', wp_pure']
  refine rw_make (kA := kA₁) (kB := kB₁) (cB := cB) (cC := cC) hN hkA₁ hkindA₁ hkB₁ hkindB₁ hl1 hl2 (by show T.heap.size + 1 + N ≤ _; omega) (by show T.slotsUsed + N + N * 3 ≤ _; omega) (fun d' acts' => ?_)
  have e1 : ((T.setTop g).setVm vm₁).setTop { g with stack := rest } = (T.setVm vm₁).setTop { g with stack := rest } := by
    show ((T.setVm vm₁).setTop g).setTop _ = _
    rw [State.setTop_setTop]
  rw [e1, rwS_top]
  simp only [wp_bind', W.mark, W.pushRef, State.topJava?_setTop' _ X₂.here.top, Option.some.injEq, exists_eq_left', State.setTop_setTop, State.heap_setTop]
  intro acts
  simp [jvm, X₂.here.top]
  exact s1
end MUX
