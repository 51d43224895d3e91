/-! the rules as the printer uses them -/
def GI (own : String) (idx k j : Nat) : Prop := ∃ ci : Nat, FLok own idx ci j ∧ kCls k = ci ∧ Nat.ble (ci + 1) 90 = true ∧ Nat.ble (j + 1) (kLen k) = true ∧ kRt k j = none
def GR (own : String) (idx k j : Nat) (r : Nat × Option Int) : Prop := ∃ ci : Nat, FLok own idx ci j ∧ kCls k = ci ∧ Nat.ble (ci + 1) 90 = true ∧ Nat.ble (j + 1) (kLen k) = true ∧ kRt k j = some r
def PI (own : String) (idx k j : Nat) (ty : FieldType) : Prop := ∃ ci : Nat, FLok own idx ci j ∧ FPok ci j ty ∧ kCls k = ci ∧ Nat.ble (ci + 1) 90 = true ∧ Nat.ble (j + 1) (kLen k) = true ∧ kRt k j = none
def AK (k : Nat) (ln : Int) : Prop := kCls k = 99 ∧ ((kLen k : Nat) : Int) = ln
def dropR : List TV → List TV → Prop
  | [], [] => True
  | a :: l, b :: l' => (b = (1, 0) ∨ b = a) ∧ dropR l l'
  | _, _ => False
theorem dropR_at : ∀ {l l' : List TV}, dropR l l' → ∀ {i : Nat} {q : TV}, l'[i]? = some q → q = (1, 0) ∨ l[i]? = some q := by
  intro l
  induction l with
  | nil =>
    intro l' h i q hq
    cases l' with
    | nil => simp at hq
    | cons => exact h.elim
  | cons a l ih =>
    intro l' h i q hq
    cases l' with
    | nil => exact h.elim
    | cons b l' =>
      match i, hq with
      | 0, hq =>
        rw [List.getElem?_cons_zero] at hq
        cases hq
        rcases h.1 with e | e
        · exact Or.inl e
        · exact Or.inr (by rw [e]; rfl)
      | i + 1, hq =>
        rw [List.getElem?_cons_succ] at hq
        rcases ih h.2 hq with e | e
        · exact Or.inl e
        · exact Or.inr (by rw [List.getElem?_cons_succ]; exact e)
theorem dropR_ok : ∀ {l l' : List TV}, dropR l l' → okS l → okS l' := by
  intro l
  induction l with
  | nil =>
    intro l' h _
    cases l' with
    | nil => exact trivial
    | cons => exact h.elim
  | cons a l ih =>
    intro l' h ho
    cases l' with
    | nil => exact h.elim
    | cons b l' =>
      refine ⟨?_, ih h.2 ho.2⟩
      rcases h.1 with e | e
      · rw [e]; exact trivial
      · rw [e]; exact ho.1
section VP
variable {G : GG} {p : Program} {l : Launch} {e : Jvm.Env} {R : Room} {s : State} {m : MethodId} {args : Array Value} {below : List Frame} {meth : Method} {c : Code} {Q : State → Prop} {own : String} {cc : ByteArray} {nL d pc : Nat} {lo st : List TV} {h : HP} {n : Nat}
theorem V.drop {lo' : List TV} (hdr : dropR lo lo') (k1 : V G p l e R s m args below meth c Q nL pc lo' st h n) : V G p l e R s m args below meth c Q nL pc lo st h n := by
  intro ho hs H L ls hL hP hS
  refine k1 (dropR_ok hdr ho) hs H L ls ⟨hL.1, hL.2.1, fun i q hq h1 => ?_⟩ hP hS
  rcases dropR_at hdr hq with e | e
  · exact absurd (by rw [e]) h1
  · exact hL.2.2 i q e h1
theorem V.gI (hc : VC G p R s m args meth c own cc nL d) {idx j k : Nat} {i jj : Int} (hg : GI own idx k j) (hjj : ((j : Nat) : Int) = jj) (hd : decode cc pc = .ok (.getfield idx, 3))
    (k1 : V G p l e R s m args below meth c Q nL (pc + 3) lo ((0, h k i jj) :: st) h n) : V G p l e R s m args below meth c Q nL pc lo ((k + 10, i) :: st) h n := by
  obtain ⟨ci, h1, h2, h3, h4, h5⟩ := hg
  exact V.getI hc h1 h2 h3 h4 h5 hjj hd k1
theorem V.gR (hc : VC G p R s m args meth c own cc nL d) {idx j k k' : Nat} {r2 : Option Int} {i i' : Int} (hg : GR own idx k j (k', r2)) (hi' : kTo (k', r2) i = i') (hd : decode cc pc = .ok (.getfield idx, 3))
    (k1 : V G p l e R s m args below meth c Q nL (pc + 3) lo ((k' + 10, i') :: st) h n) : V G p l e R s m args below meth c Q nL pc lo ((k + 10, i) :: st) h n := by
  obtain ⟨ci, h1, h2, h3, h4, h5⟩ := hg
  exact V.getR hc h1 h2 h3 h4 h5 rfl hi' hd k1
theorem V.pI (hc : VC G p R s m args meth c own cc nL d) {idx j k : Nat} {i jj x : Int} (hg : PI own idx k j .int) (hjj : ((j : Nat) : Int) = jj) (hd : decode cc pc = .ok (.putfield idx, 3))
    (k1 : ∀ h1 : HP, h1 = up h k i jj x → V G p l e R s m args below meth c Q nL (pc + 3) lo st h1 n) : V G p l e R s m args below meth c Q nL pc lo ((0, x) :: (k + 10, i) :: st) h n := by
  obtain ⟨ci, h1, h2, h3, h4, h5, h6⟩ := hg
  exact V.putI hc h1 h2 h3 h4 h5 h6 hjj hd (k1 _ rfl)
theorem V.pZ (hc : VC G p R s m args meth c own cc nL d) {idx j k : Nat} {i jj x : Int} (hg : PI own idx k j .boolean) (hjj : ((j : Nat) : Int) = jj) (hx : x = 0 ∨ x = 1) (hd : decode cc pc = .ok (.putfield idx, 3))
    (k1 : ∀ h1 : HP, h1 = up h k i jj x → V G p l e R s m args below meth c Q nL (pc + 3) lo st h1 n) : V G p l e R s m args below meth c Q nL pc lo ((0, x) :: (k + 10, i) :: st) h n := by
  obtain ⟨ci, h1, h2, h3, h4, h5, h6⟩ := hg
  exact V.putZ hc h1 h2 h3 h4 h5 h6 hjj hx hd (k1 _ rfl)
theorem V.ald (hc : VC G p R s m args meth c own cc nL d) {k : Nat} {i j ln : Int} (hk : AK k ln) (hj : 0 ≤ j ∧ j < ln) (hd : decode cc pc = .ok (.iaload, 1))
    (k1 : V G p l e R s m args below meth c Q nL (pc + 1) lo ((0, h k i j) :: st) h n) : V G p l e R s m args below meth c Q nL pc lo ((0, j) :: (k + 10, i) :: st) h n := V.iald hc hk.1 hk.2 hj hd k1
theorem V.ast (hc : VC G p R s m args meth c own cc nL d) {k : Nat} {i j x ln : Int} (hk : AK k ln) (hj : 0 ≤ j ∧ j < ln) (hd : decode cc pc = .ok (.iastore, 1))
    (k1 : ∀ h1 : HP, h1 = up h k i j x → V G p l e R s m args below meth c Q nL (pc + 1) lo st h1 n) : V G p l e R s m args below meth c Q nL pc lo ((0, x) :: (0, j) :: (k + 10, i) :: st) h n := V.iast hc hk.1 hk.2 hj hd (k1 _ rfl)
theorem V.acp (hc : VC G p R s m args meth c own cc nL d) {k0 k1 : Nat} {i0 i1 sp dp nn l0 l1 : Int} {idx : Nat} (hl : Cond.methodLink own idx arraycopyName ∈ tblG) (h1 : Nat.ble 2 d = true) (hk0 : AK k0 l0) (hk1 : AK k1 l1)
    (hg : 0 ≤ sp ∧ 0 ≤ dp ∧ 0 ≤ nn ∧ sp + nn ≤ l0 ∧ dp + nn ≤ l1) (hd : decode cc pc = .ok (.invokestatic idx, 3))
    (kk : ∀ h1 : HP, h1 = upr h k1 i1 (fun j => if dp ≤ j ∧ j < dp + nn then h k0 i0 (sp + (j - dp)) else h k1 i1 j) → V G p l e R s m args below meth c Q nL (pc + 3) lo [] h1 n) : V G p l e R s m args below meth c Q nL pc lo [(0, nn), (0, dp), (k1 + 10, i1), (0, sp), (k0 + 10, i0)] h n := V.acopy hc hl h1 hk0.1 hk1.1 hk0.2 hk1.2 hg hd (kk _ rfl)
theorem V.aln (hc : VC G p R s m args meth c own cc nL d) {k : Nat} {i ln : Int} (hk : AK k ln) (hd : decode cc pc = .ok (.arraylength, 1))
    (k1 : V G p l e R s m args below meth c Q nL (pc + 1) lo ((0, ln) :: st) h n) : V G p l e R s m args below meth c Q nL pc lo ((k + 10, i) :: st) h n := V.alen hc hk.1 hk.2 hd k1
end VP
