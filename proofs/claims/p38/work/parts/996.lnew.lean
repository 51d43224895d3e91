/-! rules for what the law makes -/
def setA (G : GG) (x a N : Nat) : GG := (G.1, (G.2.1, ((fun n => if n = 300 + x then a else if n = 400 + x then 1 else if n = 14 ∧ x = 4 then N else G.2.2.1 n), G.2.2.2)))
theorem setA_a {G : GG} {x a N : Nat} : (setA G x a N).2.2.1 (300 + x) = a := by
  show (if 300 + x = 300 + x then a else _) = a
  rw [if_pos rfl]
theorem setA_1 {G : GG} {x a N : Nat} (hx : x < 40) : (setA G x a N).2.2.1 (400 + x) = 1 := by
  show (if 400 + x = 300 + x then a else if 400 + x = 400 + x then 1 else _) = 1
  rw [if_neg (by omega), if_pos rfl]
theorem setA_o {G : GG} {x a N n : Nat} (h1 : n ≠ 300 + x) (h2 : n ≠ 400 + x) (h3 : ¬ (n = 14 ∧ x = 4)) : (setA G x a N).2.2.1 n = G.2.2.1 n := by
  show (if n = 300 + x then a else if n = 400 + x then 1 else if n = 14 ∧ x = 4 then N else G.2.2.1 n) = _
  rw [if_neg h1, if_neg h2, if_neg h3]
theorem setA_14 {G : GG} {a N : Nat} : (setA G 4 a N).2.2.1 14 = N := by
  show (if 14 = 300 + 4 then a else if 14 = 400 + 4 then 1 else if 14 = 14 ∧ 4 = 4 then N else G.2.2.1 14) = N
  rw [if_neg (by decide), if_neg (by decide), if_pos ⟨rfl, rfl⟩]
theorem setA_eg {G : GG} {x a N : Nat} (hx : x < 40) (h0 : G.2.2.1 (400 + x) = 0) : EG G (setA G x a N) := by
  refine ⟨rfl, rfl, rfl, fun n h1 h2 => setA_o (by omega) (by omega) (by omega), setA_o (by omega) (by omega) (by omega), fun y hy he => ?_⟩
  have hyx : y ≠ x := fun e => by rw [e] at he; omega
  rw [setA_o (n := 400 + y) (by omega) (by omega) (by omega), setA_o (n := 300 + y) (by omega) (by omega) (by omega)]
  exact ⟨he, rfl⟩
theorem setA_sg {G : GG} {x a N : Nat} (sg : SG G) (b : Bnd G a) (hx : 3 ≤ x ∧ x < 40) (h0 : G.2.2.1 (400 + x) = 0) : SG (setA G x a N) := by
  refine SG_new sg b (setA_eg hx.2 h0) ⟨setA_o (by omega) (by omega) (by omega), setA_o (by omega) (by omega) (by omega)⟩ (fun y y3 y4 he => ?_) (fun y y' y3 y4 y3' y4' he he' hz e => ?_)
  · by_cases c : y = x
    · subst c; rw [setA_a]; exact Or.inr (Nat.le_refl _)
    · rw [setA_o (by omega) (by omega) (by omega)] at he; exact Or.inl he
  · have key : ∀ w, 3 ≤ w → w < 40 → (setA G x a N).2.2.1 (400 + w) = 1 → a ≤ (setA G x a N).2.2.1 (300 + w) → w = x := fun w w3 w4 hw ha => by
      by_cases c : w = x
      · exact c
      · rw [setA_o (by omega) (by omega) (by omega)] at hw ha
        have := b.2.2 w w3 w4 hw
        omega
    rw [key y y3 y4 he hz, key y' y3' y4' he' (by rw [← e]; exact hz)]
theorem setA_keep {G : GG} {x a N y : Nat} (hx : x < 10 ∨ (20 ≤ x ∧ x < 40)) (h5 : G.2.2.1 (500 + x) = 0) (h14 : G.2.2.1 14 ≤ 6) (h4 : x = 4 → G.2.2.1 405 ≠ 1 ∧ G.2.2.1 407 ≠ 1) (hyx : y ≠ x) (hy : G.2.2.1 (400 + y) = 1) (hy40 : y < 40) : KeepC G (setA G x a N) y := by
  have ln : lnL (setA G x a N) y = lnL G y := by
    unfold lnL
    by_cases c : x = 4
    · have := h4 c
      have y5 : y ≠ 5 := fun e => this.1 (by rw [e] at hy; exact hy)
      have y7 : y ≠ 7 := fun e => this.2 (by rw [e] at hy; exact hy)
      rw [if_neg (c := y = 4 ∨ y = 5 ∨ y = 7) (by omega), if_neg (c := y = 4 ∨ y = 5 ∨ y = 7) (by omega)]
    · rw [setA_o (n := 14) (by omega) (by omega) (by omega)]
  refine ⟨ln, fun e j hj => ?_, fun e j hj => ?_⟩
  · subst e
    have hj' : j < G.2.2.1 14 := hj
    exact setA_o (by omega) (by omega) (by omega)
  · unfold slL
    have l3 : lnL G y ≤ 3 := by
      unfold lnL
      rcases e with e | e
      · rw [if_neg (by omega), if_neg (by omega), if_pos e]; omega
      · rw [if_neg (by omega), if_neg (by omega), if_neg (by omega), if_neg (by omega)]; omega
    rcases e with e | e
    · have : lnL G 6 = 0 := rfl
      rw [e, this] at hj
      exact absurd hj (Nat.not_lt_zero _)
    · rw [setA_o (n := 520 + 3 * (y - 10) + j) (by omega) (by omega) (by omega)]
      by_cases c : 320 + 3 * (y - 10) + j = 300 + x
      · rw [if_pos (by rw [show 520 + 3 * (y - 10) + j = 500 + x by omega]; exact h5), if_pos (by rw [show 520 + 3 * (y - 10) + j = 500 + x by omega]; exact h5)]
      · rw [setA_o c (by omega) (by omega)]
/-- one more of the law's arrays -/
def New1 (G G' : GG) (x : Nat) : Prop := EG G G' ∧ SG G' ∧ G'.2.2.1 (400 + x) = 1 ∧ (x ≠ 4 → G'.2.2.1 14 = G.2.2.1 14) ∧ ∀ n, 300 ≤ n → n ≠ 300 + x → n ≠ 400 + x → G'.2.2.1 n = G.2.2.1 n
theorem setA_new {G : GG} {x a N : Nat} (sg : SG G) (b : Bnd G a) (hx : 3 ≤ x ∧ x < 40) (h0 : G.2.2.1 (400 + x) = 0) : New1 G (setA G x a N) x :=
  ⟨setA_eg hx.2 h0, setA_sg sg b hx h0, setA_1 hx.2, fun h4 => setA_o (by omega) (by omega) (by omega), fun n _ h1 h2 => setA_o h1 h2 (by omega)⟩
theorem upr_at {h : HP} {k : Nat} {i : Int} {g : Int → Int} : upr h k i g k i = g := upr_eq
section NEW
variable {G : GG} {p : Program} {l : Launch} {e : Jvm.Env} {R : Room} {s : State} {m : MethodId} {args : Array Value} {below : List Frame} {meth : Method} {c : Code} {Q : State → Prop} {own : String} {cc : ByteArray} {nL d pc : Nat} {lo st : List TV} {h : HP} {n : Nat}
theorem V.newI {x N n' : Nat} {y : Int} (hc : VC G p R s m args meth c own cc nL d) (sg : SG G) (hx : 3 ≤ x ∧ x < 40) (hk : intL (x : Int)) (h0 : G.2.2.1 (400 + x) = 0) (h5 : G.2.2.1 (500 + x) = 0) (h14 : G.2.2.1 14 ≤ 6) (h4 : x = 4 → G.2.2.1 405 ≠ 1 ∧ G.2.2.1 407 ≠ 1) (hl : ∀ a, lnL (setA G x a N) x = N) (hN : (N : Int) = y) (hNb : N ≤ 1000) (hlo : LiveS G lo) (hst : LiveS G st) (hA : Cond.arrayClass (newarray.typeOf .int) ∈ tblG) (hn : n + 1 ≤ n' ∧ 6 * n + N ≤ 6 * n' ∧ n' ≤ R.cells ∧ 6 * n' ≤ R.slots) (hd : decode cc pc = .ok (.newarray .int, 2))
    (k1 : ∀ a, New1 G (setA G x a N) x → VC (setA G x a N) p R s m args meth c own cc nL d → V (setA G x a N) p l e R s m args below meth c Q nL (pc + 2) lo ((3, (x : Int)) :: st) (upr h (200 + x) 0 (fun _ => 0)) n') : V G p l e R s m args below meth c Q nL pc lo ((0, y) :: st) h n := by
  intro ho hs H L ls hL hP hS
  have b := Bnd_of hP
  have nw := setA_new (N := N) sg b hx h0
  have hc' := nw.1.vc hc nw.2.1.D
  obtain ⟨e1, e2, e3, e4, e5, e6, -⟩ := hc
  subst hN
  have hkx : x < 10 ∨ (20 ≤ x ∧ x < 40) := by unfold intL at hk; omega
  refine va_newaK (atype := .int) (N := N) e1 e2 (e5 _ hA) rfl hd rfl (fun q => ?_) (by rw [ofInt_clamp (by omega) (by omega)]; omega) (by show N * 4 ≤ 536870912; omega) (by omega) (by omega) rfl (fun H1 cA a1 z1 o1 hAr hNm => ?_)
  · have := (ofInt_lt (x := (N : Int)) (y := 0) (by unfold inR; omega) inR_0).mp q
    omega
  have hR0 : s.vm.findClass _ = some (G.2.2.1 0) := (e6.1.2 0 (G.2.2.1 0, .int) rfl).2
  have hcA : cA = G.2.2.1 0 := Option.some.inj (hNm.symm.trans hR0)
  subst hcA
  refine W.widen (k := n') (n := 6 * n') hn.1 (by omega) ?_
  have hP1 : va_P (setA G x H.size N).2.1 vwCl (mkW (setA G x H.size N) (upr h (200 + x) 0 (fun _ => 0))) H1 := by
    refine ext_P nw.1 hP o1 ⟨setA_o (by omega) (by omega) (by omega), setA_o (by omega) (by omega) (by omega)⟩ (fun k hk => upr_far (by omega)) (fun w w3 w4 hw => ?_)
    by_cases cx : w = x
    · subst cx
      refine Or.inr ?_
      rw [setA_a, upr_at]
      have ec := cellL_int (G := setA G w H.size N) (x := (w : Int)) (f := fun _ => 0) hk
      rw [show ((w : Int)).toNat = w by omega, hl] at ec
      rw [ec]
      show H1[H.size]? = some (vp_cell ((setA G w H.size N).2.2.1 0) (N, .inl (fun j : Nat => Int32.ofInt 0)))
      rw [setA_o (by omega) (by omega) (by omega), vp_cell_i, a1]
      rfl
    · rw [setA_o (n := 400 + w) (by omega) (by omega) (by omega)] at hw
      exact Or.inl ⟨hw, setA_keep hkx h5 h14 h4 cx hw w4, by rw [upr_far (by omega)]⟩
  have hS1 : va_S (va_Aof (setA G x H.size N)) s.heap H1 L := by
    have eA : va_Aof (setA G x H.size N) = va_Aof G := by
      unfold va_Aof
      rw [show (setA G x H.size N).1 = G.1 from rfl, setA_o (n := 399) (by omega) (by omega) (by omega)]
    rw [eA]
    exact ⟨Nat.le_trans hS.1 (by omega), fun q h1 h2 => (o1 q (Nat.lt_of_lt_of_le h1 hS.1)).trans (hS.2.1 q h1 h2), hS.2.2⟩
  have k2 := k1 H.size nw hc' ho ⟨trivial, hs.2⟩ H1 L ls (nw.1.lr ho hlo hL) hP1 hS1
  have ev : cv (setA G x H.size N) (3, (x : Int)) = .ref H.size := by
    show (if (x : Int) = 0 then Value.ref _ else if (setA G x H.size N).2.2.1 (400 + ((x : Int)).toNat) = 0 then Value.null else Value.ref ((setA G x H.size N).2.2.1 (300 + ((x : Int)).toNat))) = _
    rw [if_neg (by omega), show ((x : Int)).toNat = x by omega, setA_1 hx.2, if_neg (by decide), setA_a]
  rw [List.map_cons, ev, nw.1.map hs.2 hst] at k2
  exact k2
/-- no flows: a row of none -/
theorem V.newR {n' idx : Nat} (hc : VC G p R s m args meth c own cc nL d) (sg : SG G) (h0 : G.2.2.1 406 = 0) (h5 : G.2.2.1 506 = 0) (h14 : G.2.2.1 14 ≤ 6) (hlo : LiveS G lo) (hst : LiveS G st) (hcl : Cond.classLink own idx (FieldType.array .int).toString ∈ tblG) (hov : (Cond.arrayOver (.array .int)).before args s = true) (hn : n + 1 ≤ n' ∧ n' ≤ R.cells ∧ 6 * n' ≤ R.slots) (hd : decode cc pc = .ok (.anewarray idx, 3))
    (k1 : ∀ a, New1 G (setA G 6 a 0) 6 → VC (setA G 6 a 0) p R s m args meth c own cc nL d → V (setA G 6 a 0) p l e R s m args below meth c Q nL (pc + 3) lo ((3, 6) :: st) h n') : V G p l e R s m args below meth c Q nL pc lo ((0, 0) :: st) h n := by
  intro ho hs H L ls hL hP hS
  have b := Bnd_of hP
  have nw := setA_new (N := 0) (x := 6) sg b (by decide) h0
  have hc' := nw.1.vc hc nw.2.1.D
  obtain ⟨e1, e2, e3, e4, e5, e6, -⟩ := hc
  refine W.anewA (n := Int32.ofInt 0) e1 e2 e4 (e5 _ hcl) hov rfl hd rfl (by decide) (by decide) (by omega) (by show 6 * n + (Int32.ofInt 0).toNatClampNeg ≤ R.slots; rw [ofInt_clamp (by omega) (by omega)]; omega) (fun cA kA comp f1 f2 f3 f4 => ?_)
  have hR0 : s.vm.findClass _ = some (G.2.2.1 5) := (e6.1.2 2 (G.2.2.1 5, .array .int) rfl).2
  have hcA : cA = G.2.2.1 5 := Option.some.inj (f1.symm.trans hR0)
  subst hcA
  have z0 : (Int32.ofInt 0).toNatClampNeg = 0 := by decide
  rw [z0]
  generalize hH1 : H.push ({ cls := G.2.2.1 5, slots := Array.replicate 0 .null, vm := .none } : Cell) = H1
  have z1 : H1.size = H.size + 1 := by rw [← hH1, Array.size_push]
  have a1 : H1[H.size]? = some (arrV (G.2.2.1 5) 0 (fun _ => .null)) := by rw [← hH1, Array.getElem?_push_size, ← arrV_new]
  have o1 : ∀ q : Nat, q < H.size → H1[q]? = H[q]? := fun q hq => by rw [← hH1, Array.getElem?_push, if_neg (Nat.ne_of_lt hq)]
  refine W.widen (k := n') (n := 6 * n') hn.1 (by omega) ?_
  have hP1 : va_P (setA G 6 H.size 0).2.1 vwCl (mkW (setA G 6 H.size 0) h) H1 := by
    refine ext_P nw.1 hP o1 ⟨rfl, rfl⟩ (fun k hk => rfl) (fun w w3 w4 hw => ?_)
    by_cases cx : w = 6
    · subst cx
      refine Or.inr ?_
      show H1[H.size]? = some (vp_cell ((setA G 6 H.size 0).2.2.1 5) (0, .inr (.inr (.inr (.inr (slL (setA G 6 H.size 0) 6))))))
      rw [setA_o (by decide) (by decide) (by decide), vp_cell_q, a1]
      congr 1
    · rw [setA_o (n := 400 + w) (by omega) (by omega) (by omega)] at hw
      exact Or.inl ⟨hw, setA_keep (Or.inl (by decide)) h5 h14 (fun z => absurd z (by decide)) cx hw w4, rfl⟩
  have hS1 : va_S (va_Aof (setA G 6 H.size 0)) s.heap H1 L := by
    have eA : va_Aof (setA G 6 H.size 0) = va_Aof G := by
      unfold va_Aof
      rw [show (setA G 6 H.size 0).1 = G.1 from rfl, setA_o (n := 399) (by omega) (by omega) (by omega)]
    rw [eA]
    exact ⟨Nat.le_trans hS.1 (by omega), fun q h1 h2 => (o1 q (Nat.lt_of_lt_of_le h1 hS.1)).trans (hS.2.1 q h1 h2), hS.2.2⟩
  have k2 := k1 H.size nw hc' ho ⟨trivial, hs.2⟩ H1 L ls (nw.1.lr ho hlo hL) hP1 hS1
  have ev : cv (setA G 6 H.size 0) (3, 6) = .ref H.size := rfl
  rw [List.map_cons, ev, nw.1.map hs.2 hst] at k2
  exact k2
/-- what the tables say of rows of rows -/
def MC (G : GG) (U : State) : Prop := (∃ k : Class, U.vm.classes[G.2.2.1 6]? = some k ∧ k.kind = .array (G.2.2.1 5) (.array (.array .int))) ∧ ∃ k : Class, U.vm.classes[G.2.2.1 5]? = some k ∧ k.kind = .array (G.2.2.1 0) (.array .int)
theorem MC.moved {u U : State} (hvm : u.vm.Alike U.vm) (h : MC G u) : MC G U := by
  obtain ⟨⟨k, h1, h2⟩, k', h3, h4⟩ := h
  obtain ⟨k1, g1, g2⟩ := hvm.2.2 _ _ h1
  obtain ⟨k2, g3, g4⟩ := hvm.2.2 _ _ h3
  exact ⟨⟨k1, g1, by rw [g2]; exact h2⟩, k2, g3, by rw [g4]; exact h4⟩
theorem MC.eg {G' : GG} {U : State} (x : EG G G') (h : MC G U) : MC G' U := by
  unfold MC
  rw [x.2.2.2.1 0 (by decide) (by decide), x.2.2.2.1 5 (by decide) (by decide), x.2.2.2.1 6 (by decide) (by decide)]
  exact h
def setM (G : GG) (a N : Nat) : GG := (G.1, (G.2.1, ((fun n => if n = 305 then a else if n = 405 then 1 else if 310 ≤ n ∧ n < 310 + N then a + 1 + (n - 310) else if 410 ≤ n ∧ n < 410 + N then 1 else G.2.2.1 n), G.2.2.2)))
theorem setM_o {a N n : Nat} (h1 : n ≠ 305) (h2 : n ≠ 405) (h3 : ¬ (310 ≤ n ∧ n < 310 + N)) (h4 : ¬ (410 ≤ n ∧ n < 410 + N)) : (setM G a N).2.2.1 n = G.2.2.1 n := by
  show (if n = 305 then a else if n = 405 then 1 else if 310 ≤ n ∧ n < 310 + N then a + 1 + (n - 310) else if 410 ≤ n ∧ n < 410 + N then 1 else G.2.2.1 n) = _
  rw [if_neg h1, if_neg h2, if_neg h3, if_neg h4]
theorem setM_a {a N j : Nat} (hj : j < N) (hN : N ≤ 10) : (setM G a N).2.2.1 (310 + j) = a + 1 + j := by
  show (if 310 + j = 305 then a else if 310 + j = 405 then 1 else if 310 ≤ 310 + j ∧ 310 + j < 310 + N then a + 1 + (310 + j - 310) else _) = _
  rw [if_neg (by omega), if_neg (by omega), if_pos (by omega)]
  omega
end NEW
