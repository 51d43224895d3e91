/-! parents and curve: rows that they answer -/
theorem kd_n (x : Nat) : kd (x : Int) = 200 + x := by unfold kd; rw [Int.toNat_natCast]
theorem ml_L_93 : Cond.methodLink RL 93 yL_parents ∈ tblG := tin 775 (by decide +kernel) (by decide)
theorem mo_L_parents : MOs yL_parents cL_parents 4 (some (.array .int)) 2 := ⟨tin 776 (by decide +kernel) (by decide), tin 27 (by decide +kernel) (by decide), tin 777 (by decide +kernel) (by decide), by decide +kernel, by decide +kernel⟩
theorem ml_L_97 : Cond.methodLink RL 97 yL_curves ∈ tblG := tin 781 (by decide +kernel) (by decide)
theorem mo_L_curves : MOs yL_curves cL_curves 7 (some (.array (.array (.array .int)))) 3 := ⟨tin 782 (by decide +kernel) (by decide), tin 27 (by decide +kernel) (by decide), tin 783 (by decide +kernel) (by decide), by decide +kernel, by decide +kernel⟩
theorem ml_L_30 : Cond.methodLink RL 30 yL_curve ∈ tblG := tin 787 (by decide +kernel) (by decide)
theorem mo_L_curve : MOs yL_curve cL_curve 1 (some (.array .int)) 1 := ⟨tin 788 (by decide +kernel) (by decide), tin 27 (by decide +kernel) (by decide), tin 789 (by decide +kernel) (by decide), by decide +kernel, by decide +kernel⟩
theorem ml_L_101 : Cond.methodLink RL 101 yL_tell ∈ tblG := tin 791 (by decide +kernel) (by decide)
theorem ml_L_105 : Cond.methodLink RL 105 yL_isToldAgain ∈ tblG := tin 985 (by decide +kernel) (by decide)
theorem cb_L_28 : Cond.classLink RL 28 ("[" ++ (FieldType.array (.array .int)).toString) ∈ tblG := tin 784 (by decide +kernel) (by decide)
theorem cb_L_39 : Cond.classLink RL 39 (FieldType.array .int).toString ∈ tblG := tin 1048 (by decide +kernel) (by decide)
theorem kb_L_38 : Cond.constant RL 38 (Int32.ofInt 1610612736) ∈ tblG := tin 790 (by decide +kernel) (by decide)
section PAR
variable {G : GG} {p : Program} {l : Launch} {e : Jvm.Env} {R : Room} {s : State} {m : MethodId} {args : Array Value} {below : List Frame} {meth : Method} {c : Code} {Q : State → Prop} {own : String} {cc : ByteArray} {nL d pc : Nat} {lo st : List TV} {h : HP} {n : Nat}
theorem V.wid {n' : Nat} (hn : n ≤ n') (k : V G p l e R s m args below meth c Q nL pc lo st h n') : V G p l e R s m args below meth c Q nL pc lo st h n := by
  intro ho hs H L ls hL hP hS
  exact W.widen (k := n') (n := 6 * n') hn (by omega) (k ho hs H L ls hL hP hS)
theorem V.most {a b : Int} {st0 : List TV} (hc : VC G p R s m args meth c RL cc nL d) (hb : 0 < b ∧ b ≤ 1000) (hst : st0 = [(0, b), (0, a)] ++ st) (hd3 : Nat.ble 3 d = true) (hcat : Nat.ble (catS st) 8 = true) (hn : n ≤ R.cells ∧ 6 * n ≤ R.slots) (hd : decode cc pc = .ok (.invokestatic 24, 3)) (k1 : ∀ x, 0 ≤ x → x < b → V G p l e R s m args below meth c Q nL (pc + 3) lo ((0, x) :: st) h n) : V G p l e R s m args below meth c Q nL pc lo st0 h n := by
  refine V.callSI hc (qL_most G l a b h (fun x h' => (0 ≤ x ∧ x < b) ∧ h' = h) (most_s hb (fun r r0 r1 => ⟨⟨r0, r1⟩, rfl⟩))) mo_L_most ml_L_24 (as := [(0, a), (0, b)]) hst rfl hd3 rfl hcat hn hd (fun x h1 hx => ?_)
  obtain ⟨⟨x0, x1⟩, rfl⟩ := hx
  exact k1 x x0 x1
theorem V.cell {a : Int} {st0 : List TV} (hc : VC G p R s m args meth c RL cc nL d) (hl : G.2.2.1 11 ≤ 1000) (ha : 0 ≤ a ∧ a ≤ 100) (hst : st0 = [(0, a), (3, 0)] ++ st) (hd3 : Nat.ble 3 d = true) (hcat : Nat.ble (catS st) 8 = true) (hn : n ≤ R.cells ∧ 6 * n ≤ R.slots) (hd : decode cc pc = .ok (.invokestatic 20, 3)) (k1 : ∀ x, inR x → V G p l e R s m args below meth c Q nL (pc + 3) lo ((0, x) :: st) h n) : V G p l e R s m args below meth c Q nL pc lo st0 h n := by
  refine V.callSI hc (qL_cell G l a h (fun x h' => inR x ∧ h' = h) (cell_s hl ha (fun r r0 => ⟨r0, rfl⟩))) mo_L_cell ml_L_20 (as := [(3, 0), (0, a)]) hst rfl hd3 rfl hcat hn hd (fun x h1 hx => ?_)
  obtain ⟨x0, rfl⟩ := hx
  exact k1 x x0
end PAR
def PPar (G : GG) (h : HP) (G' : GG) (h' : HP) (x : Int) : Prop := x = 4 ∧ New1 G G' 4 ∧ ∃ (N : Nat) (pr : Nat → Int), (1 ≤ N ∧ N ≤ 6) ∧ G'.2.2.1 14 = N ∧ (∀ c : Nat, c < N → (pr c = 12 ∨ (0 ≤ pr c ∧ pr c < (c : Int))) ∧ h' 204 0 (c : Int) = rc (pr c)) ∧ ∀ k, k ≠ 204 → h' k = h k
theorem rf_0 (G : GG) : ∃ a, cv G (3, 0) = .ref a := ⟨_, rfl⟩
theorem live_0 (G : GG) : Live G (3, 0) := fun _ z => absurd rfl z
theorem live_i (G : GG) (v : Int) : Live G (0, v) := fun z => absurd z (by show (0 : Nat) ≠ 3; decide)
theorem live_u (G : GG) (v : Int) : Live G (1, v) := fun z => absurd z (by show (1 : Nat) ≠ 3; decide)
theorem LiveS.nil (G : GG) : LiveS G [] := fun q hq => by cases hq
theorem LiveS.cons {G : GG} {q : TV} {l : List TV} (a : Live G q) (b : LiveS G l) : LiveS G (q :: l) := fun x hx => by
  rcases List.mem_cons.mp hx with z | z
  · rw [z]; exact a
  · exact b x z
theorem live_x {G : GG} {x : Int} (h0 : 0 ≤ x ∧ x < 100) (h : G.2.2.1 (400 + x.toNat) = 1) : Live G (3, x) := fun _ _ => ⟨h0, h⟩
theorem qL_parents (G : GG) (l : Launch) (sg : SG G) (hlen : G.2.2.1 11 ≤ 1000) (h0 : ∀ y, 4 ≤ y → y < 40 → G.2.2.1 (400 + y) = 0) (h5 : ∀ y, y < 40 → G.2.2.1 (500 + y) = 0) (h14 : G.2.2.1 14 ≤ 6) (h : HP) : CnR l G yL_parents cL_parents 4 (.array .int) 3 1 [(3, 0), (0, 0)] h (PPar G h) := by
  refine CnR.of (lo := [(3, 0), (0, 0), (1, 0), (1, 0)]) (by decide) rfl rfl rfl ?_
  intro p e s m args below meth c hc hr hm
  have hc : VC G p (rmD 3 1) s m args meth c RL cL_parents 4 3 := hc
  have z0 : (0 : Nat) ≤ (rmD 3 1).cells ∧ 6 * 0 ≤ (rmD 3 1).slots := ⟨Nat.zero_le _, Nat.zero_le _⟩
  have z1 : (1 : Nat) ≤ (rmD 3 1).cells ∧ 6 * 1 ≤ (rmD 3 1).slots := ⟨Nat.le_refl _, Nat.le_refl _⟩
  refine V.iconst hc dL_parents_0 ?_
  refine V.aloadC_n hc (rf_0 G) dL_parents_1 rfl rfl ?_
  refine V.iload_n hc dL_parents_2 rfl rfl ?_
  refine V.cell hc hlen (by decide) rfl rfl rfl z0 dL_parents_3 (fun v hv => ?_)
  refine V.bipush hc dL_parents_6 (by decide) ?_
  refine V.most hc (by decide) rfl rfl rfl z0 dL_parents_8 (fun r r0 r1 => ?_)
  refine V.iadd hc dL_parents_11 ?_
  obtain ⟨N, hN⟩ : ∃ N : Nat, (N : Int) = 1 + r := ⟨(1 + r).toNat, by omega⟩
  refine V.newI (x := 4) (N := N) (n' := 1) hc sg (by decide) (Or.inr (Or.inl rfl)) (h0 4 (by decide) (by decide)) (h5 4 (by decide)) h14 (fun _ => ⟨by rw [h0 5 (by decide) (by decide)]; decide, by rw [h0 7 (by decide) (by decide)]; decide⟩) (fun a => setA_14) hN (by omega) (LiveS.cons (live_0 G) (LiveS.cons (live_i G 0) (LiveS.cons (live_u G 0) (LiveS.cons (live_u G 0) (LiveS.nil G))))) (LiveS.nil G) abI ⟨by decide, by omega, z1⟩ dL_parents_12 (fun a nw hc' => ?_)
  have e14 : (setA G 4 a N).2.2.1 14 = N := setA_14
  have ex : exL (setA G 4 a N) 4 := ⟨by decide, nw.2.2.1, by rw [e14]; omega⟩
  have hln : ((lnL (setA G 4 a N) (4 : Int).toNat : Nat) : Int) = (N : Int) := by
    show (((setA G 4 a N).2.2.1 14 : Nat) : Int) = _
    rw [e14]
  have hl' : (setA G 4 a N).2.2.1 11 ≤ 1000 := by rw [setA_o (by decide) (by decide) (by decide)]; exact hlen
  refine V.astoreC_n hc' (ex.rf) dL_parents_14 rfl rfl (lo' := [(3, 0), (0, 0), (3, 4), (1, 0)]) rfl ?_
  refine V.iconst hc' dL_parents_15 ?_
  refine V.istore_n hc' dL_parents_16 rfl rfl (lo' := [(3, 0), (0, 0), (3, 4), (0, 0)]) rfl ?_
  have loop : ∀ (d c' : Nat) (h1 : HP), c' + d = N → (∀ k, k ≠ 204 → h1 k = h k) → (∀ j : Nat, j < c' → -1 ≤ h1 204 0 (j : Int) ∧ h1 204 0 (j : Int) < (j : Int)) → V (setA G 4 a N) p l e (rmD 3 1) s m args below meth c (MQ below (QR G (PPar G h)) args s 1 (6 * 1) (va_Aof G)) 4 17 [(3, 0), (0, 0), (3, 4), (0, (c' : Int))] [] h1 1 := by
    intro d
    induction d with
    | zero =>
      intro c' h1 hcd hk hv1
      refine V.iload_n hc' dL_parents_17 rfl rfl ?_
      refine V.aloadC_n hc' ex.rf dL_parents_18 rfl rfl ?_
      refine V.laln (ln := (N : Int)) hc' ex (by decide) hln dL_parents_19 ?_
      refine V.icmp_ge hc' (tgt := 51) dL_parents_20 (by decide) (by unfold inR; omega) (by unfold inR; omega) (fun _ => ?_) (fun z => absurd (by omega) z)
      refine V.aloadC_n hc' ex.rf dL_parents_51 rfl rfl ?_
      refine V.aret (G := G) hc' nw.1 nw.2.1 hr ex.rf dL_parents_52 ⟨rfl, nw, N, fun j => if h1 204 0 (j : Int) = -1 then 12 else h1 204 0 (j : Int), by omega, e14, fun j hj => ?_, hk⟩
      have hj1 := hv1 j (by omega)
      show ((if h1 204 0 (j : Int) = -1 then (12 : Int) else h1 204 0 (j : Int)) = 12 ∨ (0 ≤ (if h1 204 0 (j : Int) = -1 then (12 : Int) else h1 204 0 (j : Int)) ∧ (if h1 204 0 (j : Int) = -1 then (12 : Int) else h1 204 0 (j : Int)) < (j : Int))) ∧ h1 204 0 (j : Int) = rc (if h1 204 0 (j : Int) = -1 then 12 else h1 204 0 (j : Int))
      unfold rc
      by_cases z : h1 204 0 (j : Int) = -1
      · rw [if_pos z, if_pos rfl]; exact ⟨Or.inl rfl, z⟩
      · rw [if_neg z, if_neg (by omega)]; exact ⟨Or.inr (by omega), rfl⟩
    | succ d ih =>
      intro c' h1 hcd hk hv1
      refine V.iload_n hc' dL_parents_17 rfl rfl ?_
      refine V.aloadC_n hc' ex.rf dL_parents_18 rfl rfl ?_
      refine V.laln (ln := (N : Int)) hc' ex (by decide) hln dL_parents_19 ?_
      refine V.icmp_ge hc' (tgt := 51) dL_parents_20 (by decide) (by unfold inR; omega) (by unfold inR; omega) (fun z => absurd z (by omega)) (fun _ => ?_)
      refine V.aloadC_n hc' ex.rf dL_parents_23 rfl rfl ?_
      refine V.iload_n hc' dL_parents_24 rfl rfl ?_
      refine V.aloadC_n hc' (rf_0 _) dL_parents_25 rfl rfl ?_
      refine V.iload_n hc' dL_parents_26 rfl rfl ?_
      refine V.cell hc' hl' (by decide) rfl rfl rfl z1 dL_parents_27 (fun v hv => ?_)
      refine V.iconst hc' dL_parents_30 ?_
      refine V.iconst hc' dL_parents_31 ?_
      refine V.iload_n hc' dL_parents_32 rfl rfl ?_
      refine V.imul hc' dL_parents_33 ?_
      refine V.iadd hc' dL_parents_34 ?_
      refine V.ishr hc' dL_parents_35 ?_
      refine V.iload_n hc' dL_parents_36 rfl rfl ?_
      refine V.iconst hc' dL_parents_37 ?_
      refine V.iadd hc' dL_parents_38 ?_
      refine V.most hc' (by omega) rfl rfl rfl z1 dL_parents_39 (fun y y0 y1 => ?_)
      refine V.iconst hc' dL_parents_42 ?_
      refine V.isub hc' dL_parents_43 ?_
      refine V.last (ln := (N : Int)) hc' ex (by decide) hln (by omega) dL_parents_44 (fun h2 e2 => ?_)
      have e2' : h2 = up h1 204 0 (c' : Int) (y - 1) := e2
      refine V.iinc hc' dL_parents_45 rfl rfl (lo' := [(3, 0), (0, 0), (3, 4), (0, (c' : Int) + 1)]) rfl ?_
      refine V.goto hc' (tgt := 17) dL_parents_48 (by decide) ?_
      have := ih (c' + 1) h2 (by omega) (fun k hk2 => by rw [e2', up_k hk2]; exact hk k hk2) (fun j hj => by
        rw [e2', up_ji]
        by_cases z : (j : Int) = (c' : Int)
        · rw [if_pos z]; omega
        · rw [if_neg z]; exact hv1 j (by omega))
      rw [show ((c' + 1 : Nat) : Int) = (c' : Int) + 1 by omega] at this
      exact this
  exact loop N 0 _ (by omega) (fun k hk => upr_far hk) (fun j hj => absurd hj (Nat.not_lt_zero j))
def PCur (G : GG) (h : HP) (x0 : Nat) (G' : GG) (h' : HP) (x : Int) : Prop := x = (x0 : Int) ∧ New1 G G' x0 ∧ wq (h' (200 + x0) 0 0, h' (200 + x0) 0 1, h' (200 + x0) 0 2) ∧ ∀ k, k ≠ 200 + x0 → h' k = h k
theorem qL_curve (G : GG) (l : Launch) (sg : SG G) (x : Nat) (hx : 20 ≤ x ∧ x < 40) (h0 : G.2.2.1 (400 + x) = 0) (h5 : G.2.2.1 (500 + x) = 0) (h14 : G.2.2.1 14 ≤ 6) (v : Int) (h : HP) : CnR l G yL_curve cL_curve 1 (.array .int) 3 1 [(0, v)] h (PCur G h x) := by
  refine CnR.of (lo := [(0, v)]) (by decide) rfl rfl rfl ?_
  intro p e s m args below meth c hc hr hm
  have hc : VC G p (rmD 3 1) s m args meth c RL cL_curve 1 3 := hc
  have z1 : (1 : Nat) ≤ (rmD 3 1).cells ∧ 6 * 1 ≤ (rmD 3 1).slots := ⟨Nat.le_refl _, Nat.le_refl _⟩
  have hi : intL (x : Int) := by unfold intL; omega
  have l3 : ∀ a, lnL (setA G x a 3) x = 3 := fun a => by
    unfold lnL
    rw [if_neg (by omega), if_neg (by omega), if_neg (by omega), if_neg (by omega)]
  refine V.iconst hc dL_curve_0 ?_
  refine V.newI (x := x) (N := 3) (n' := 1) hc sg (by omega) hi h0 h5 h14 (fun z => by omega) l3 rfl (by decide) (LiveS.cons (live_i G v) (LiveS.nil G)) (LiveS.nil G) abI ⟨by decide, by decide, z1⟩ dL_curve_1 (fun a nw hc' => ?_)
  have e14 : (setA G x a 3).2.2.1 14 = G.2.2.1 14 := nw.2.2.2.1 (by omega)
  have ex : exL (setA G x a 3) (x : Int) := ⟨by omega, by rw [show 400 + ((x : Int)).toNat = 400 + x by omega]; exact nw.2.2.1, by rw [e14]; exact h14⟩
  have hln : ((lnL (setA G x a 3) ((x : Int)).toNat : Nat) : Int) = 3 := by rw [show ((x : Int)).toNat = x by omega, l3]; rfl
  have nq : ((3, (x : Int)) : TV).1 ≠ 2 := by show (3 : Nat) ≠ 2; decide
  refine V.dup hc' dL_curve_3 nq ?_
  refine V.iconst hc' dL_curve_4 ?_
  refine V.iload_n hc' dL_curve_5 rfl rfl ?_
  refine V.bipush hc' dL_curve_6 (by decide) ?_
  refine V.most hc' (by decide) rfl rfl rfl z1 dL_curve_8 (fun y0 a0 b0 => ?_)
  refine V.last (ln := 3) hc' ex hi hln (by decide) dL_curve_11 (fun h1 e1 => ?_)
  rw [kd_n] at e1
  refine V.dup hc' dL_curve_12 nq ?_
  refine V.iconst hc' dL_curve_13 ?_
  refine V.iload_n hc' dL_curve_14 rfl rfl ?_
  refine V.bipush hc' dL_curve_15 (by decide) ?_
  refine V.ishr hc' dL_curve_17 ?_
  refine V.iconst hc' dL_curve_18 ?_
  refine V.most hc' (by decide) rfl rfl rfl z1 dL_curve_19 (fun q q0 q1 => ?_)
  have at38 : ∀ y1, 0 ≤ y1 → y1 ≤ 30 → V (setA G x a 3) p l e (rmD 3 1) s m args below meth c (MQ below (QR G (PCur G h x)) args s 1 (6 * 1) (va_Aof G)) 1 38 [(0, v)] [(0, y1), (0, 1), (3, (x : Int)), (3, (x : Int))] h1 1 := by
    intro y1 a1 b1
    refine V.last (ln := 3) hc' ex hi hln (by decide) dL_curve_38 (fun h2 e2 => ?_)
    rw [kd_n] at e2
    refine V.dup hc' dL_curve_39 nq ?_
    refine V.iconst hc' dL_curve_40 ?_
    refine V.iconst hc' dL_curve_41 ?_
    refine V.iload_n hc' dL_curve_42 rfl rfl ?_
    refine V.bipush hc' dL_curve_43 (by decide) ?_
    refine V.ishr hc' dL_curve_45 ?_
    refine V.bipush hc' dL_curve_46 (by decide) ?_
    refine V.most hc' (by decide) rfl rfl rfl z1 dL_curve_48 (fun y2 a2 b2 => ?_)
    refine V.iadd hc' dL_curve_51 ?_
    refine V.last (ln := 3) hc' ex hi hln (by decide) dL_curve_52 (fun h3 e3 => ?_)
    rw [kd_n] at e3
    refine V.aret (G := G) hc' nw.1 nw.2.1 hr ex.rf dL_curve_53 ⟨rfl, nw, ?_, fun k hk => ?_⟩
    · have v0 : h3 (200 + x) 0 0 = y0 := by rw [e3, up_j (by decide), e2, up_j (by decide), e1, up_eq]
      have v1 : h3 (200 + x) 0 1 = y1 := by rw [e3, up_j (by decide), e2, up_eq]
      have v2 : h3 (200 + x) 0 2 = 1 + y2 := by rw [e3, up_eq]
      rw [v0, v1, v2]
      unfold wq wellC
      show 0 ≤ y0 ∧ y0 ≤ 100 ∧ 0 ≤ y1 ∧ y1 ≤ 30 ∧ 1 ≤ 1 + y2 ∧ 1 + y2 ≤ 100
      omega
    · rw [e3, up_k hk, e2, up_k hk, e1, up_k hk, upr_far hk]
  refine V.if_ne hc' (tgt := 29) dL_curve_22 (by decide) (by unfold inR; omega) (fun _ => ?_) (fun _ => ?_)
  · refine V.iload_n hc' dL_curve_29 rfl rfl ?_
    refine V.bipush hc' dL_curve_30 (by decide) ?_
    refine V.ishr hc' dL_curve_32 ?_
    refine V.bipush hc' dL_curve_33 (by decide) ?_
    refine V.most hc' (by decide) rfl rfl rfl z1 dL_curve_35 (fun y1 a1 b1 => ?_)
    exact at38 y1 a1 (by omega)
  · refine V.iconst hc' dL_curve_25 ?_
    refine V.goto hc' (tgt := 38) dL_curve_26 (by decide) ?_
    exact at38 0 (by decide) (by decide)
