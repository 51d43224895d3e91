/-! rules for the law's own arrays, and calls on its two objects -/
theorem OB.atv {G : GG} {o : Int} (hO : OB G o) : cv G (3, o) = .ref ((gob G o).1) := by
  rcases hO with ⟨rfl, h1, h2⟩ | ⟨rfl, h2, h3, h4⟩
  · show (if (1 : Int) = 0 then Value.ref (G.2.2.1 10) else if G.2.2.1 401 = 0 then Value.null else Value.ref (G.2.2.1 301)) = Value.ref (if (1 : Int) = 1 then G.1 else G.2.2.1 302)
    rw [if_neg (by decide), if_neg (by omega), if_pos rfl, h1]
  · show (if (2 : Int) = 0 then Value.ref (G.2.2.1 10) else if G.2.2.1 402 = 0 then Value.null else Value.ref (G.2.2.1 302)) = Value.ref (if (2 : Int) = 1 then G.1 else G.2.2.1 302)
    rw [if_neg (by decide), if_neg (by omega), if_neg (by decide)]
theorem gob_cls (G : GG) (o : Int) : clsG (gob G o) := fun n h1 _ => by
  show (if 399 ≤ n then 0 else G.2.2.1 n) = 0
  rw [if_pos (by omega)]
theorem gob_lo (G : GG) (o : Int) {n : Nat} (hn : n < 399) : (gob G o).2.2.1 n = G.2.2.1 n := by
  show (if 399 ≤ n then 0 else G.2.2.1 n) = _
  rw [if_neg (by omega)]
theorem cellR_cong {G G' : GG} {k : Nat} {i : Int} {f : Int → Int} (e1 : G'.1 = G.1) (e2 : G'.2.2.1 0 = G.2.2.1 0) (e3 : G'.2.2.1 3 = G.2.2.1 3) : cellR G' k i f = cellR G k i f := by
  have e : fldV G' f k i = fldV G f k i := by
    funext j
    unfold fldV
    rw [e1]
  unfold cellR
  rw [e, e1, e2, e3]
theorem mkO_cong {G G' : GG} {h : HP} (e1 : G'.1 = G.1) (e2 : G'.2.2.1 0 = G.2.2.1 0) (e3 : G'.2.2.1 3 = G.2.2.1 3) : mkO G' h = mkO G h := by
  unfold mkO
  apply List.map_congr_left
  intro a _
  rw [e1, cellR_cong e1 e2 e3]
theorem gob_mk1 {G : GG} {h : HP} : mkO (gob G 1) h = mkO G h := mkO_cong rfl rfl rfl
theorem gob_mk2 {G : GG} {h : HP} : mkO (gob G 2) h = mkO (Gq G) h := mkO_cong rfl rfl rfl
theorem ob_1 (h : HP) : ob 1 h = h := rfl
theorem ob_2 (h : HP) : ob 2 h = shq h := rfl
theorem mkO_ex {G : GG} {h : HP} {j : Nat} (hj : j < nCell) : ∃ x, (mkO G h)[j]? = some (G.1 + j, x) := by
  unfold mkO
  rw [List.getElem?_map, List.getElem?_range hj]
  exact ⟨_, rfl⟩
theorem mkW_left {G : GG} {h : HP} {j : Nat} (hj : j < nCell) : (mkW G h)[j]? = (mkO G h)[j]? := by
  unfold mkW
  rw [List.getElem?_append_left (by rw [mkO_len]; exact hj)]
theorem mkW_mid {G : GG} {h : HP} (h2 : G.2.2.1 402 = 1) {j : Nat} (hj : j < nCell) : (mkW G h)[nCell + j]? = (mkO (Gq G) (shq h))[j]? := by
  have e : qL G h = mkO (Gq G) (shq h) := by unfold qL; rw [if_pos h2]
  unfold mkW
  rw [List.getElem?_append_right (by rw [mkO_len]; omega), mkO_len, e, List.getElem?_append_left (by rw [mkO_len]; omega), Nat.add_sub_cancel_left]
theorem app_req {α : Type} {A A' B : List α} {i : Nat} (h : A.length = A'.length) (hi : A.length ≤ i) : (A ++ B)[i]? = (A' ++ B)[i]? := by
  rw [List.getElem?_append_right hi, List.getElem?_append_right (by omega), h]
theorem ob_P {G : GG} {o : Int} {h : HP} {D : va_G} {cl : List vw_C} {H : Heap} (hO : OB G o) (hP : va_P D cl (mkW G h) H) : va_P D cl (mkW (gob G o) (ob o h)) H := by
  rw [(gob_cls G o).mk]
  intro k q hq
  have kl := (mkO_key hq).2
  rcases hO with ⟨rfl, -⟩ | ⟨rfl, h2, -⟩
  · rw [gob_mk1, ob_1] at hq
    exact hP k q (by rw [mkW_left kl]; exact hq)
  · rw [gob_mk2, ob_2] at hq
    exact hP (nCell + k) q (by rw [mkW_mid h2 kl]; exact hq)
theorem pt_1 {h g : HP} {k : Nat} (hk : k < 100) : pt 1 h g k = g k := by
  show (if 100 * 0 ≤ k ∧ k < 100 * 0 + 100 then g (k - 100 * 0) else h k) = _
  rw [if_pos (by omega)]
  rfl
theorem pt_1o {h g : HP} {k : Nat} (hk : 100 ≤ k) : pt 1 h g k = h k := by
  show (if 100 * 0 ≤ k ∧ k < 100 * 0 + 100 then g (k - 100 * 0) else h k) = _
  rw [if_neg (by omega)]
theorem pt_2 {h g : HP} {k : Nat} (hk : k < 100) : pt 2 h g (k + 100) = g k := by
  show (if 100 * 1 ≤ k + 100 ∧ k + 100 < 100 * 1 + 100 then g (k + 100 - 100 * 1) else h (k + 100)) = _
  rw [if_pos (by omega)]
  congr 1
theorem pt_2o {h g : HP} {k : Nat} (hk : k < 100 ∨ 200 ≤ k) : pt 2 h g k = h k := by
  show (if 100 * 1 ≤ k ∧ k < 100 * 1 + 100 then g (k - 100 * 1) else h k) = _
  rw [if_neg (by omega)]
theorem ob_put {G : GG} {o : Int} {h g : HP} {D : va_G} {cl : List vw_C} {H H1 : Heap} {A : Nat → Prop} (hO : OB G o) (hD : va_D A (mkW G h)) (hP : va_P D cl (mkW G h) H) (hP1 : va_P D cl (mkW (gob G o) g) H1) (hq : ∀ a : Nat, a < H.size → ¬ va_Aof (gob G o) a → H1[a]? = H[a]?) : va_P D cl (mkW G (pt o h g)) H1 := by
  rw [(gob_cls G o).mk] at hP1
  have z : ∀ a, va_Aof (gob G o) a → (gob G o).1 ≤ a ∧ a < (gob G o).1 + nCell := fun a ha => by
    refine ⟨ha.1, ?_⟩
    rcases ha.2 with q | q
    · have e : (gob G o).2.2.1 399 = 0 := by show (if 399 ≤ 399 then 0 else G.2.2.1 399) = 0; rw [if_pos (by decide)]
      rw [e] at q
      exact absurd q (by decide)
    · exact q
  rcases hO with ⟨rfl, -⟩ | ⟨rfl, h2, -⟩
  · have tl : qL G (pt 1 h g) ++ arL G (pt 1 h g) = qL G h ++ arL G h := by
      rw [qL_far (h := h) (fun k a b => pt_1o (by omega)), arL_far (h := h) (fun k a b => pt_1o (by omega))]
    have far : ∀ i : Nat, nCell ≤ i → (mkW G (pt 1 h g))[i]? = (mkW G h)[i]? := fun i hi => by
      unfold mkW
      rw [tl]
      exact app_req (by rw [mkO_len, mkO_len]) (by rw [mkO_len]; exact hi)
    intro i e he
    rcases Nat.lt_or_ge i nCell with hi | hi
    · rw [mkW_left hi, mkO_far (h := g) (fun k hk => pt_1 (by omega))] at he
      rw [gob_mk1] at hP1
      exact hP1 i e he
    · rw [far i hi] at he
      have h1 := hP i e he
      refine h1.kept (hq e.1 h1.lt (fun ha => ?_))
      have hb := z e.1 ha
      have hb1 : G.1 ≤ e.1 ∧ e.1 < G.1 + nCell := hb
      obtain ⟨x, hx⟩ := mkO_ex (G := G) (h := h) (j := e.1 - G.1) (by omega)
      have := hD.1 i (e.1 - G.1) e _ he (by rw [mkW_left (by omega)]; exact hx) (by show e.1 = G.1 + (e.1 - G.1); omega)
      omega
  · have e2 : ∀ hh : HP, qL G hh = mkO (Gq G) (shq hh) := fun hh => by unfold qL; rw [if_pos h2]
    have far : ∀ i : Nat, i < nCell ∨ nCell + nCell ≤ i → (mkW G (pt 2 h g))[i]? = (mkW G h)[i]? := fun i hi => by
      rcases Nat.lt_or_ge i nCell with q | q
      · rw [mkW_left q, mkW_left q, mkO_far (h := h) (fun k hk => pt_2o (Or.inl (by omega)))]
      · have q2 : nCell + nCell ≤ i := by omega
        unfold mkW
        rw [← List.append_assoc, ← List.append_assoc, arL_far (h := h) (fun k a b => pt_2o (Or.inr (by omega)))]
        have l1 : ∀ hh : HP, (mkO G hh ++ qL G hh).length = nCell + nCell := fun hh => by rw [List.length_append, mkO_len, e2, mkO_len]
        exact app_req (by rw [l1, l1]) (by rw [l1]; exact q2)
    intro i e he
    by_cases hi : nCell ≤ i ∧ i < nCell + nCell
    · have hs : mkO (Gq G) (shq (pt 2 h g)) = mkO (Gq G) g := mkO_far (fun k hk => pt_2 (by omega))
      rw [show i = nCell + (i - nCell) by omega, mkW_mid h2 (by omega), hs] at he
      rw [gob_mk2] at hP1
      exact hP1 (i - nCell) e he
    · rw [far i (by omega)] at he
      have h1 := hP i e he
      refine h1.kept (hq e.1 h1.lt (fun ha => ?_))
      have hb := z e.1 ha
      have hb1 : G.2.2.1 302 ≤ e.1 ∧ e.1 < G.2.2.1 302 + nCell := hb
      obtain ⟨x, hx⟩ := mkO_ex (G := Gq G) (h := shq h) (j := e.1 - G.2.2.1 302) (by omega)
      have := hD.1 i (nCell + (e.1 - G.2.2.1 302)) e _ he (by rw [mkW_mid h2 (by omega)]; exact hx) (by show e.1 = G.2.2.1 302 + (e.1 - G.2.2.1 302); omega)
      omega
theorem gob_A {G : GG} {o : Int} (hO : OB G o) {q : Nat} (hq : va_Aof (gob G o) q) : va_Aof G q := by
  have h0 : (gob G o).2.2.1 399 = 0 := by show (if 399 ≤ 399 then 0 else G.2.2.1 399) = 0; rw [if_pos (by decide)]
  obtain ⟨h1, h2⟩ := hq
  rw [h0] at h2
  rcases hO with ⟨rfl, -⟩ | ⟨rfl, -, h3, h4⟩
  · exact ⟨h1, Or.inr (by rcases h2 with z | z; exact absurd z (by decide); exact z)⟩
  · have h1' : G.2.2.1 302 ≤ q := h1
    exact ⟨by omega, Or.inl h3⟩
theorem ldc_lt : ∀ q ∈ ldcT, q.2.2 < 11 := by decide +kernel
theorem Env.ob {G : GG} {o : Int} {U : State} {H : Heap} (hO : OB G o) (hE : Env G U H) (hz : (gob G o).1 ≤ H.size) : Env (gob G o) U H := by
  obtain ⟨h1, h2, h3, h4, h5, h6, ⟨h7, h70, h71⟩, h8, h9, h10⟩ := hE
  have nb : ∀ q, va_Aof (gob G o) q → va_Aof G q := fun q hq => gob_A hO hq
  refine ⟨h1, h2, h3, h4, ?_, h6, ⟨?_, ?_, ?_⟩, ?_, hz, (gob_cls G o).D⟩
  · show G.2.2.1 10 < (gob G o).1
    rcases hO with ⟨rfl, -⟩ | ⟨rfl, -, -, h11⟩
    · exact h5
    · exact Nat.lt_of_lt_of_le h5 h11
  · have h7' := h7.narrow nb
    refine ⟨fun i hi => ?_, fun i j hi hj e => ?_⟩
    · have hi' : i < 11 := hi
      have := h7'.1 i hi
      show va_O _ ((gob G o).2.2.1 (20 + i)) _ _ _ ∧ va_OF _ _ _ _ ((gob G o).2.2.1 (20 + i)) _ _ _ ∧ va_OF _ _ _ (.ref ((gob G o).2.2.1 (40 + i))) ((gob G o).2.2.1 (20 + i)) _ _ _ ∧ va_T _ ((gob G o).2.2.1 (40 + i)) _ _ _ _ _
      rw [gob_lo G o (by omega), gob_lo G o (by omega)]
      exact this
    · have hi' : i < 11 := hi
      have hj' : j < 11 := hj
      have e' : (gob G o).2.2.1 (20 + i) = (gob G o).2.2.1 (20 + j) := e
      rw [gob_lo G o (by omega), gob_lo G o (by omega)] at e'
      exact h7.2 i j hi hj e'
  · exact h70.narrow nb
  · exact h71.narrow nb
  · intro q hq
    have := ldc_lt q hq
    rw [gob_lo G o (by omega)]
    exact h8 q hq
section VL1
variable {G : GG} {p : Program} {l : Launch} {e : Jvm.Env} {R : Room} {s : State} {m : MethodId} {args : Array Value} {below : List Frame} {meth : Method} {c : Code} {Q : State → Prop} {own : String} {cc : ByteArray} {nL d pc : Nat} {lo st : List TV} {h : HP} {n : Nat}
theorem cv_x {G : GG} {x : Int} (hx : exL G x) : cv G (3, x) = .ref (G.2.2.1 (300 + x.toNat)) := by
  obtain ⟨h1, h2, h3⟩ := hx
  show (if x = 0 then Value.ref (G.2.2.1 10) else if G.2.2.1 (400 + x.toNat) = 0 then Value.null else Value.ref (G.2.2.1 (300 + x.toNat))) = _
  rw [if_neg (by omega), if_neg (by omega)]
theorem exL.rf {G : GG} {x : Int} (hx : exL G x) : ∃ a, cv G (3, x) = .ref a := ⟨_, cv_x hx⟩
theorem OB.rf {G : GG} {x : Int} (hx : OB G x) : ∃ a, cv G (3, x) = .ref a := ⟨_, hx.atv⟩
theorem lnL_lt {G : GG} {x : Nat} (hx : G.2.2.1 14 ≤ 6) : lnL G x < 2147483648 := by
  unfold lnL
  split
  · decide
  · split
    · omega
    · split
      · decide
      · split <;> decide
theorem lnL_3 {G : GG} {x : Int} (hx : 20 ≤ x) : ((lnL G x.toNat : Nat) : Int) = 3 := by
  unfold lnL
  rw [if_neg (by omega), if_neg (by omega), if_neg (by omega), if_neg (by omega)]
  rfl
theorem cellL_int {G : GG} {x : Int} {f : Int → Int} (hi : intL x) : cellL G x.toNat f = .inl (G.2.2.1 0, lnL G x.toNat, .inl (fun j : Nat => Int32.ofInt (f j))) := by
  unfold cellL
  rw [if_neg (by omega), if_neg (by omega)]
theorem V.lald (hc : VC G p R s m args meth c own cc nL d) {x j ln : Int} (hx : exL G x) (hi : intL x) (hln : ((lnL G x.toNat : Nat) : Int) = ln) (hj : 0 ≤ j ∧ j < ln) (hd : decode cc pc = .ok (.iaload, 1))
    (k1 : V G p l e R s m args below meth c Q nL (pc + 1) lo ((0, h (kd x) 0 j) :: st) h n) : V G p l e R s m args below meth c Q nL pc lo ((0, j) :: (3, x) :: st) h n := by
  intro ho hs H L ls hL hP hS
  obtain ⟨e1, e2, e3, e4, e5, ⟨e6, -⟩, -⟩ := hc
  obtain ⟨q, hq, -⟩ := mkW_law G h (x := x.toNat) (by have := hx.1; omega) (by have := hx.1; omega) hx.2.1
  rw [cellL_int hi] at hq
  have hlt := lnL_lt (G := G) (x := x.toNat) hx.2.2
  subst hln
  rw [List.map_cons, List.map_cons, cv_x hx]
  refine va_iald e1 e2 e6 hP q 0 hq rfl (ofInt_in hj.1 hj.2 hlt) hd ?_
  have k2 := k1 ho ⟨trivial, hs.2.2⟩ H L ls hL hP hS
  rw [ofInt_clamp hj.1 (by omega), Int.toNat_of_nonneg hj.1]
  exact k2
theorem V.last (hc : VC G p R s m args meth c own cc nL d) {x j v ln : Int} (hx : exL G x) (hi : intL x) (hln : ((lnL G x.toNat : Nat) : Int) = ln) (hj : 0 ≤ j ∧ j < ln) (hd : decode cc pc = .ok (.iastore, 1))
    (k1 : ∀ h1 : HP, h1 = up h (kd x) 0 j v → V G p l e R s m args below meth c Q nL (pc + 1) lo st h1 n) : V G p l e R s m args below meth c Q nL pc lo ((0, v) :: (0, j) :: (3, x) :: st) h n := by
  intro ho hs H L ls hL hP hS
  have hD := hc.D h
  obtain ⟨e1, e2, e3, e4, e5, ⟨e6, -⟩, -⟩ := hc
  obtain ⟨q, hq, hset⟩ := mkW_law G h (x := x.toNat) (by have := hx.1; omega) (by have := hx.1; omega) hx.2.1
  rw [cellL_int hi] at hq
  have hlt := lnL_lt (G := G) (x := x.toNat) hx.2.2
  subst hln
  rw [List.map_cons, List.map_cons, List.map_cons, cv_x hx]
  refine va_iast e1 e2 e6 hP hD hS q 0 hq rfl (ofInt_in hj.1 hj.2 hlt) hd (fun H1 L1 hP1 hD1 hS1 => ?_)
  rw [ofI_fun hj.1 (by omega), ← cellL_int (G := G) (x := x) (f := fun a => if a = j then v else h (200 + x.toNat) 0 a) hi, hset] at hP1
  exact k1 _ rfl ho hs.2.2.2 H1 L1 ls hL hP1 hS1
theorem V.laln (hc : VC G p R s m args meth c own cc nL d) {x ln : Int} (hx : exL G x) (hi : intL x) (hln : ((lnL G x.toNat : Nat) : Int) = ln) (hd : decode cc pc = .ok (.arraylength, 1))
    (k1 : V G p l e R s m args below meth c Q nL (pc + 1) lo ((0, ln) :: st) h n) : V G p l e R s m args below meth c Q nL pc lo ((3, x) :: st) h n := by
  intro ho hs H L ls hL hP hS
  obtain ⟨e1, e2, e3, e4, e5, ⟨e6, -⟩, -⟩ := hc
  obtain ⟨q, hq, -⟩ := mkW_law G h (x := x.toNat) (by have := hx.1; omega) (by have := hx.1; omega) hx.2.1
  rw [cellL_int hi] at hq
  subst hln
  rw [List.map_cons, cv_x hx]
  exact va_alen e1 e2 e6 hP q 0 hq rfl (by rw [← Int32.ofInt_eq_ofNat]) hd (k1 ho ⟨trivial, hs.2⟩ H L ls hL hP hS)
theorem V.laln6 (hc : VC G p R s m args meth c own cc nL d) (hx : exL G 6) (hd : decode cc pc = .ok (.arraylength, 1))
    (k1 : V G p l e R s m args below meth c Q nL (pc + 1) lo ((0, 0) :: st) h n) : V G p l e R s m args below meth c Q nL pc lo ((3, 6) :: st) h n := by
  intro ho hs H L ls hL hP hS
  obtain ⟨e1, e2, e3, e4, e5, ⟨e6, -⟩, -⟩ := hc
  obtain ⟨q, hq, -⟩ := mkW_law G h (x := 6) (by decide) (by decide) hx.2.1
  have ec : cellL G 6 (h (200 + 6) 0) = .inl (G.2.2.1 5, 0, .inr (.inr (.inr (.inr (fun j : Nat => if G.2.2.1 (520 + 3 * (6 - 10) + j) = 0 then none else some (G.2.2.1 (320 + 3 * (6 - 10) + j))))))) := rfl
  rw [ec] at hq
  rw [List.map_cons, cv_x hx]
  exact va_alen e1 e2 e6 hP q 2 hq rfl (by rfl) hd (k1 ho ⟨trivial, hs.2⟩ H L ls hL hP hS)
theorem va_aldA {D : va_G} {cl : List vw_C} {H : Heap} {locs : List Loc} {cells slots : Nat} {ls : Array Slot} {rest : List Value} {a : Nat} {tys : List (ClassId × FieldType)} {ws : va_W} (hexec : p.tables.exec = Jvm.exec) (hb : c.code = cc) (hK : va_K D cl tys s) (hP : va_P D cl ws H) (q0 t0 : Nat) {cA : ClassId} {t : FieldType} {N : Nat} {f : Nat → Option Nat} (ha : ws[q0]? = some (a, .inl (cA, N, .inr (.inr (.inr (.inr f)))))) (ht : tys[t0]? = some (cA, .array t)) {i : Int32} (hin : vp_in i N) (hdg : decode cc pc = .ok (.aaload, 1))
    (kk : W p l e R s m args below meth c H locs cells slots Q (F0 m (pc + 1) ls (va_rf (f i.toNatClampNeg) :: rest))) : W p l e R s m args below meth c H locs cells slots Q (F0 m pc ls (.int i :: .ref a :: rest)) := by
  have hlt : i.toNatClampNeg < N := Nat.not_le.mp fun q => hin (Or.inr q)
  exact W.aald (v := va_rf (f i.toNatClampNeg)) (ty := .array t) hexec hb (hP q0 _ ha) ((hK.2 t0 _ ht).1 N (fun j => va_rf (f j))) rfl (fun q => by cases q) (by show ¬ (i < 0 ∨ (arrV _ _ _).slots.size ≤ _); rw [arrV_size]; exact hin) (by show (arrV _ _ _).slots[_]? = _; rw [arrV_read _ _ hlt]) rfl rfl hdg kk
theorem V.laald (hc : VC G p R s m args meth c own cc nL d) {j : Int} (hx : exL G 5) (he : exL G (10 + j)) (hj : 0 ≤ j ∧ j < npI G) (hd : decode cc pc = .ok (.aaload, 1))
    (k1 : V G p l e R s m args below meth c Q nL (pc + 1) lo ((3, 10 + j) :: st) h n) : V G p l e R s m args below meth c Q nL pc lo ((0, j) :: (3, 5) :: st) h n := by
  intro ho hs H L ls hL hP hS
  obtain ⟨e1, e2, e3, e4, e5, ⟨e6, -⟩, -⟩ := hc
  obtain ⟨q, hq, -⟩ := mkW_law G h (x := 5) (by decide) (by decide) hx.2.1
  have ec : cellL G 5 (h (200 + 5) 0) = .inl (G.2.2.1 6, G.2.2.1 14, .inr (.inr (.inr (.inr (fun j : Nat => some (G.2.2.1 (310 + j))))))) := rfl
  rw [ec] at hq
  have h6 := hx.2.2
  have hj2 : j < ((G.2.2.1 14 : Nat) : Int) := hj.2
  rw [List.map_cons, List.map_cons, cv_x hx]
  refine va_aldA e1 e2 e6 hP q 3 hq rfl (ofInt_in hj.1 hj2 (by omega)) hd ?_
  have k2 := k1 ho ⟨trivial, hs.2.2⟩ H L ls hL hP hS
  rw [List.map_cons, cv_x he, show 300 + (10 + j).toNat = 310 + j.toNat by omega] at k2
  rw [ofInt_clamp hj.1 (by omega)]
  exact k2
theorem V.laald2 (hc : VC G p R s m args meth c own cc nL d) {c0 k : Int} (sl : ∀ y : Nat, 20 ≤ y → y < 40 → (G.2.2.1 (500 + y) = 0 ↔ G.2.2.1 (400 + y) = 0)) (hx : exL G (10 + c0)) (hc0 : 0 ≤ c0 ∧ c0 < npI G) (hk : 0 ≤ k ∧ k < 3) (hd : decode cc pc = .ok (.aaload, 1))
    (k1 : V G p l e R s m args below meth c Q nL (pc + 1) lo ((3, 20 + 3 * c0 + k) :: st) h n) : V G p l e R s m args below meth c Q nL pc lo ((0, k) :: (3, 10 + c0) :: st) h n := by
  intro ho hs H L ls hL hP hS
  obtain ⟨e1, e2, e3, e4, e5, ⟨e6, -⟩, -⟩ := hc
  obtain ⟨q, hq, -⟩ := mkW_law G h (x := (10 + c0).toNat) (by have := hx.1; omega) (by have := hx.1; omega) hx.2.1
  have h6 := hx.2.2
  have hc1 : c0 < ((G.2.2.1 14 : Nat) : Int) := hc0.2
  have ec : cellL G (10 + c0).toNat (h (200 + (10 + c0).toNat) 0) = .inl (G.2.2.1 5, 3, .inr (.inr (.inr (.inr (fun j : Nat => if G.2.2.1 (520 + 3 * ((10 + c0).toNat - 10) + j) = 0 then none else some (G.2.2.1 (320 + 3 * ((10 + c0).toNat - 10) + j))))))) := by
    unfold cellL lnL
    rw [if_neg (by omega), if_pos (by omega), if_neg (by omega), if_neg (by omega), if_neg (by omega), if_neg (by omega)]
  rw [ec] at hq
  rw [List.map_cons, List.map_cons, cv_x hx]
  refine va_aldA e1 e2 e6 hP q 2 hq rfl (ofInt_in (n := 3) hk.1 hk.2 (by decide)) hd ?_
  have k2 := k1 ho ⟨trivial, hs.2.2⟩ H L ls hL hP hS
  rw [ofInt_clamp hk.1 (by omega)]
  have es := sl (20 + 3 * c0 + k).toNat (by omega) (by omega)
  rw [show 500 + (20 + 3 * c0 + k).toNat = 520 + 3 * ((10 + c0).toNat - 10) + k.toNat by omega] at es
  have ev : cv G (3, 20 + 3 * c0 + k) = va_rf (if G.2.2.1 (520 + 3 * ((10 + c0).toNat - 10) + k.toNat) = 0 then none else some (G.2.2.1 (320 + 3 * ((10 + c0).toNat - 10) + k.toNat))) := by
    show (if (20 + 3 * c0 + k : Int) = 0 then Value.ref (G.2.2.1 10) else if G.2.2.1 (400 + (20 + 3 * c0 + k).toNat) = 0 then Value.null else Value.ref (G.2.2.1 (300 + (20 + 3 * c0 + k).toNat))) = _
    rw [if_neg (by omega)]
    by_cases z : G.2.2.1 (400 + (20 + 3 * c0 + k).toNat) = 0
    · rw [if_pos z, if_pos (es.mpr z)]; rfl
    · rw [if_neg z, if_neg (fun w => z (es.mp w)), show 300 + (20 + 3 * c0 + k).toNat = 320 + 3 * ((10 + c0).toNat - 10) + k.toNat by omega]; rfl
  rw [List.map_cons, ev] at k2
  exact k2
theorem V.ifnull (hc : VC G p R s m args meth c own cc nL d) {x off : Int} {tgt : Nat} (hd : decode cc pc = .ok (.ifnull off, 3)) (ht : (pc : Int) + off = (tgt : Int)) (h0 : 0 < x)
    (k1 : G.2.2.1 (400 + x.toNat) = 0 → V G p l e R s m args below meth c Q nL tgt lo st h n) (k2 : ¬ G.2.2.1 (400 + x.toNat) = 0 → V G p l e R s m args below meth c Q nL (pc + 3) lo st h n) : V G p l e R s m args below meth c Q nL pc lo ((3, x) :: st) h n := by
  intro ho hs H L ls hL hP hS
  have ev : cv G (3, x) = if G.2.2.1 (400 + x.toNat) = 0 then .null else .ref (G.2.2.1 (300 + x.toNat)) := by
    show (if x = 0 then Value.ref (G.2.2.1 10) else if G.2.2.1 (400 + x.toNat) = 0 then Value.null else Value.ref (G.2.2.1 (300 + x.toNat))) = _
    rw [if_neg (by omega)]
  rw [List.map_cons, ev]
  by_cases z : G.2.2.1 (400 + x.toNat) = 0
  · rw [if_pos z]
    exact lv_ifnullN hc.1 hc.2.1 hd ht (k1 z ho hs.2 H L ls hL hP hS)
  · rw [if_neg z]
    exact lv_ifnull hc.1 hc.2.1 hd (k2 z ho hs.2 H L ls hL hP hS)
theorem V.aloadC (hc : VC G p R s m args meth c own cc nL d) {i : Nat} {x : Int} (hx : ∃ a, cv G (3, x) = .ref a) (hd : decode cc pc = .ok (.aload i, 2)) (hl : lo[i]? = some (3, x))
    (k1 : V G p l e R s m args below meth c Q nL (pc + 2) lo ((3, x) :: st) h n) : V G p l e R s m args below meth c Q nL pc lo st h n := by
  intro ho hs H L ls hL hP hS
  obtain ⟨a, ha⟩ := hx
  have k2 := k1 ho ⟨trivial, hs⟩ H L ls hL hP hS
  have hr := (hL.2.2 i _ hl (by show (3 : Nat) ≠ 1; omega)).2
  rw [ha] at hr
  rw [List.map_cons, ha] at k2
  exact lv_aload hc.1 hc.2.1 hd hr k2
theorem V.astoreC (hc : VC G p R s m args meth c own cc nL d) {i : Nat} {x : Int} {lo' : List TV} (hx : ∃ a, cv G (3, x) = .ref a) (hd : decode cc pc = .ok (.astore i, 2)) (hn : Nat.ble (i + 1) nL = true) (hl : lo.set i (3, x) = lo')
    (k1 : V G p l e R s m args below meth c Q nL (pc + 2) lo' st h n) : V G p l e R s m args below meth c Q nL pc lo ((3, x) :: st) h n := by
  intro ho hs H L ls hL hP hS
  subst hl
  obtain ⟨a, ha⟩ := hx
  rw [List.map_cons, ha]
  exact lv_astore hc.1 hc.2.1 hd hL.has (Nat.le_of_ble_eq_true hn) rfl (fun ls' h' => k1 (okS_set ho i hs.1) hs.2 H L ls' (hL.set (q := (3, x)) (by show (3 : Nat) ≠ 2; omega) (by rw [ha]; exact h')) hP hS)
theorem V.astoreC_n (hc : VC G p R s m args meth c own cc nL d) {k : Fin 4} {i : Nat} {x : Int} {lo' : List TV} (hx : ∃ a, cv G (3, x) = .ref a) (hd : decode cc pc = .ok (.astore_n k, 1)) (hi : (k : Nat) = i) (hn : Nat.ble (i + 1) nL = true) (hl : lo.set i (3, x) = lo')
    (k1 : V G p l e R s m args below meth c Q nL (pc + 1) lo' st h n) : V G p l e R s m args below meth c Q nL pc lo ((3, x) :: st) h n := by
  intro ho hs H L ls hL hP hS
  subst hl
  obtain ⟨a, ha⟩ := hx
  rw [List.map_cons, ha]
  exact lv_astore_n hc.1 hc.2.1 hd hi hL.has (Nat.le_of_ble_eq_true hn) rfl (fun ls' h' => k1 (okS_set ho i hs.1) hs.2 H L ls' (hL.set (q := (3, x)) (by show (3 : Nat) ≠ 2; omega) (by rw [ha]; exact h')) hP hS)
theorem V.ldcJ (hc : VC G p R s m args meth c own cc nL d) {x : Int} {idx : Nat} (hk : Cond.constantLong own idx (Int64.ofInt x) ∈ tblG) (hd : decode cc pc = .ok (.ldc2_w idx, 3))
    (k1 : V G p l e R s m args below meth c Q nL (pc + 3) lo ((2, x) :: st) h n) : V G p l e R s m args below meth c Q nL pc lo st h n := by
  intro ho hs H L ls hL hP hS
  exact lv_ldc2 hc.1 hc.2.1 hc.2.2.2.1 (hc.2.2.2.2.1 _ hk) hd (k1 ho ⟨trivial, hs⟩ H L ls hL hP hS)
variable {y : MethodName} {b : ByteArray} {mL d' np idx : Nat} {o : Int} {ret : Option FieldType} {as st0 : List TV} {P : Int → HP → Prop} {PV : HP → Prop}
theorem V.callOI (hc : VC G p R s m args meth c own cc nL d) (hO : OB G o) (hM : CnI l (gob G o) y b mL ret d' ((21, 0) :: as) (ob o h) P) (hmo : MOv y b mL ret np) (hl : Cond.methodLink own idx y ∈ tblG) (hcl : RX11 = y.cls)
    (hst : st0 = as.reverse ++ (3, o) :: st) (has : as.map (cv (gob G o)) = as.map (cv G)) (hnp : as.length = np) (hdd : Nat.ble (d' + 1) d = true) (hm : Nat.ble mL 21 = true) (hcat : Nat.ble (catS st) 8 = true) (hn : n ≤ R.cells ∧ 6 * n ≤ R.slots) (hd : decode cc pc = .ok (.invokevirtual idx, 3))
    (k1 : ∀ (x : Int) (g h' : HP), h' = pt o h g → P x g → V G p l e R s m args below meth c Q nL (pc + 3) lo ((0, x) :: st) h' n) : V G p l e R s m args below meth c Q nL pc lo st0 h n := by
  intro ho hs H L ls hL hP hS
  subst hst
  have hs' := okS_app.mp hs
  have hsa : okS ((21, 0) :: as) := ⟨by show kOk 11 0 = true; decide +kernel, okS_rev.mp hs'.1⟩
  have hPo := ob_P hO hP
  have hw := mkW_at (gob G o) (ob o h) (k := 11) (i := 0) (by decide +kernel)
  rw [cellR_obj (ci := 11) rfl rfl] at hw
  have hrc := va_recv hc.2.2.2.2.2.1.1 hPo (show vwCl[11]? = some (RX11, TX11, 21) from rfl) hw
  rw [hcl] at hrc
  have hr9 := room_ok (mc := 0) hc hdd hm
  have e5 := hc.2.2.2.2.1
  have hE := hc.2.2.2.2.2.1
  have hD := hc.D h
  have hcw := Nat.le_trans (catS_le G st) (Nat.le_of_ble_eq_true hcat)
  have hsz : (gob G o).1 ≤ H.size := by
    have := (hPo _ _ hw).lt
    have e0 : kAt 11 0 = 0 := by decide +kernel
    have this' : (gob G o).1 + kAt 11 0 < H.size := this
    omega
  have hpre : ∀ U : State, U.heap = H → s.WarmedH U.vm → ePc (gob G o) ((21, 0) :: as) (ob o h) (((21, 0) :: as).map (cv (gob G o))).toArray U := by
    intro U hU hW
    refine ⟨rfl, hsa, by rw [hU]; exact hPo, ?_⟩
    rw [hU]
    exact ((hE.kept hS.1 hS.2.1).moved hW).ob hO hsz
  have e0 : cv (gob G o) (21, 0) = .ref ((gob G o).1 + kAt 11 0) := rfl
  refine va_calli (va_runV (As := as.map (cv G)) (rest := st.map (cv G)) ⟨hc.1, hc.2.1, hc.2.2.1, hc.2.2.2.1, e5⟩ hM (cwV np e5 (hmo.ws hl) rfl rfl rfl ⟨rfl, hmo.2.2.2.2.1.1, hmo.2.2.2.2.1.2, hmo.2.2.2.2.2⟩ hr9) ⟨ePc_blind (gob G o) _ (ob o h), hrc, by rw [← has]; exact hpre⟩ rfl (by rw [List.length_map]; exact hnp) hL.1 (by
      have k0 : kAt 11 0 = 0 := by decide +kernel
      rw [List.map_append, List.map_reverse, List.map_cons, hO.atv, k0]
      rfl) (lv_room hcw) hd ⟨hn.1, hn.2⟩) hS (fun q _ z => gob_A hO z) (fun q z => gob_A hO z) (fun r u t H1 L1 ht hvm hw1 hB hz hk1 hS1 => ?_)
  obtain ⟨hr1, hp1⟩ := hw1
  have hB1 : va_P G.2.1 vwCl (mkW (gob G o) u.2) t.heap := hB
  rw [ht] at hB1
  have hP1 := ob_put hO hD hP hB1 hk1
  have := k1 u.1 u.2 _ rfl hp1 ho ⟨trivial, hs'.2.2⟩ H1 L1 ls hL hP1 hS1
  rw [hr1]
  exact this
theorem V.callOV (hc : VC G p R s m args meth c own cc nL d) (hO : OB G o) (hM : CnV l (gob G o) y b mL d' ((21, 0) :: as) (ob o h) PV) (hmo : MOv y b mL none np) (hl : Cond.methodLink own idx y ∈ tblG) (hcl : RX11 = y.cls)
    (hst : st0 = as.reverse ++ (3, o) :: st) (has : as.map (cv (gob G o)) = as.map (cv G)) (hnp : as.length = np) (hdd : Nat.ble (d' + 1) d = true) (hm : Nat.ble mL 21 = true) (hcat : Nat.ble (catS st) 8 = true) (hn : n ≤ R.cells ∧ 6 * n ≤ R.slots) (hd : decode cc pc = .ok (.invokevirtual idx, 3))
    (k1 : ∀ (g h' : HP), h' = pt o h g → PV g → V G p l e R s m args below meth c Q nL (pc + 3) lo st h' n) : V G p l e R s m args below meth c Q nL pc lo st0 h n := by
  intro ho hs H L ls hL hP hS
  subst hst
  have hs' := okS_app.mp hs
  have hsa : okS ((21, 0) :: as) := ⟨by show kOk 11 0 = true; decide +kernel, okS_rev.mp hs'.1⟩
  have hPo := ob_P hO hP
  have hw := mkW_at (gob G o) (ob o h) (k := 11) (i := 0) (by decide +kernel)
  rw [cellR_obj (ci := 11) rfl rfl] at hw
  have hrc := va_recv hc.2.2.2.2.2.1.1 hPo (show vwCl[11]? = some (RX11, TX11, 21) from rfl) hw
  rw [hcl] at hrc
  have hr9 := room_ok (mc := 0) hc hdd hm
  have e5 := hc.2.2.2.2.1
  have hE := hc.2.2.2.2.2.1
  have hD := hc.D h
  have hcw := Nat.le_trans (catS_le G st) (Nat.le_of_ble_eq_true hcat)
  have hsz : (gob G o).1 ≤ H.size := by
    have := (hPo _ _ hw).lt
    have e0 : kAt 11 0 = 0 := by decide +kernel
    have this' : (gob G o).1 + kAt 11 0 < H.size := this
    omega
  have hpre : ∀ U : State, U.heap = H → s.WarmedH U.vm → ePc (gob G o) ((21, 0) :: as) (ob o h) (((21, 0) :: as).map (cv (gob G o))).toArray U := by
    intro U hU hW
    refine ⟨rfl, hsa, by rw [hU]; exact hPo, ?_⟩
    rw [hU]
    exact ((hE.kept hS.1 hS.2.1).moved hW).ob hO hsz
  refine va_callv (va_runV (As := as.map (cv G)) (rest := st.map (cv G)) ⟨hc.1, hc.2.1, hc.2.2.1, hc.2.2.2.1, e5⟩ hM (cwV np e5 (hmo.ws hl) rfl rfl rfl ⟨rfl, hmo.2.2.2.2.1.1, hmo.2.2.2.2.1.2, hmo.2.2.2.2.2⟩ hr9) ⟨ePc_blind (gob G o) _ (ob o h), hrc, by rw [← has]; exact hpre⟩ rfl (by rw [List.length_map]; exact hnp) hL.1 (by
      have k0 : kAt 11 0 = 0 := by decide +kernel
      rw [List.map_append, List.map_reverse, List.map_cons, hO.atv, k0]
      rfl) (lv_room hcw) hd ⟨hn.1, hn.2⟩) hS (fun q _ z => gob_A hO z) (fun q z => gob_A hO z) (fun u t H1 L1 ht hvm hw1 hB hz hk1 hS1 => ?_)
  have hB1 : va_P G.2.1 vwCl (mkW (gob G o) u) t.heap := hB
  rw [ht] at hB1
  have hP1 := ob_put hO hD hP hB1 hk1
  exact k1 u _ rfl hw1 ho hs'.2.2 H1 L1 ls hL hP1 hS1
end VL1
