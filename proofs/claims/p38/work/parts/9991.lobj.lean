/-! the law's two objects, made -/
def setO (G : GG) (z : Nat) : GG := (G.1, (G.2.1, ((fun n => if n = 302 then z else if n = 402 then 1 else G.2.2.1 n), G.2.2.2)))
def gcO (G : GG) (z : Nat) : GG := (z, (G.2.1, ((fun n => if n = 399 then 1 else if 399 ≤ n then 0 else G.2.2.1 n), G.2.2.2)))
theorem setO_o {G : GG} {z n : Nat} (h1 : n ≠ 302) (h2 : n ≠ 402) : (setO G z).2.2.1 n = G.2.2.1 n := by
  show (if n = 302 then z else if n = 402 then 1 else G.2.2.1 n) = _
  rw [if_neg h1, if_neg h2]
theorem gcO_lo {G : GG} {z n : Nat} (h : n < 399) : (gcO G z).2.2.1 n = G.2.2.1 n := by
  show (if n = 399 then 1 else if 399 ≤ n then 0 else G.2.2.1 n) = _
  rw [if_neg (by omega), if_neg (by omega)]
theorem gcO_cls (G : GG) (z : Nat) : cls2 (gcO G z) := fun n hn => by
  show (if n = 399 then 1 else if 399 ≤ n then 0 else G.2.2.1 n) = 0
  rw [if_neg (by omega), if_pos (by omega)]
theorem setO_eg {G : GG} {z : Nat} (h0 : G.2.2.1 402 = 0) : EG G (setO G z) := by
  refine ⟨rfl, rfl, rfl, fun n h1 h2 => setO_o (by omega) (by omega), setO_o (by omega) (by omega), fun y hy he => ?_⟩
  have hy2 : y ≠ 2 := fun e => by
    rw [e] at he
    have he' : G.2.2.1 402 = 1 := he
    omega
  rw [setO_o (n := 400 + y) (by omega) (by omega), setO_o (n := 300 + y) (by omega) (by omega)]
  exact ⟨he, rfl⟩
theorem setO_sg {G : GG} {z : Nat} (sg : SG G) (b : Bnd G z) : SG (setO G z) := by
  obtain ⟨s1, d1, d2, d3⟩ := sg
  refine ⟨by rw [setO_o (by omega) (by omega)]; exact s1, fun _ => b.1, fun w w3 w4 he => ?_, fun w w' w3 w4 w3' w4' he he' e => ?_⟩
  · rw [setO_o (by omega) (by omega)] at he
    rw [setO_o (n := 300 + w) (by omega) (by omega)]
    have := b.2.2 w w3 w4 he
    exact ⟨(d2 w w3 w4 he).1, fun _ => Or.inl this⟩
  · rw [setO_o (by omega) (by omega)] at he he'
    rw [setO_o (by omega) (by omega), setO_o (by omega) (by omega)] at e
    exact d3 w w' w3 w4 w3' w4' he he' e
theorem Env.gc {G : GG} {U : State} {H : Heap} {z : Nat} (hE : Env G U H) (hfl : G.2.2.1 399 = 1) (hz : G.1 ≤ z) (hzH : z ≤ H.size) : Env (gcO G z) U H := by
  obtain ⟨h1, h2, h3, h4, h5, h6, ⟨h7, h70, h71⟩, h8, h9, h10⟩ := hE
  have nb : ∀ q, va_Aof (gcO G z) q → va_Aof G q := fun q hq => ⟨by have : z ≤ q := hq.1; omega, Or.inl hfl⟩
  refine ⟨h1, h2, h3, h4, ?_, h6, ⟨?_, ?_, ?_⟩, ?_, hzH, (gcO_cls G z).D⟩
  · show (gcO G z).2.2.1 10 < z
    rw [gcO_lo (by decide)]
    exact Nat.lt_of_lt_of_le h5 hz
  · have h7' := h7.narrow nb
    refine ⟨fun i hi => ?_, fun i j hi hj e => ?_⟩
    · have hi' : i < 11 := hi
      have := h7'.1 i hi
      show va_O _ ((gcO G z).2.2.1 (20 + i)) _ _ _ ∧ va_OF _ _ _ _ ((gcO G z).2.2.1 (20 + i)) _ _ _ ∧ va_OF _ _ _ (.ref ((gcO G z).2.2.1 (40 + i))) ((gcO G z).2.2.1 (20 + i)) _ _ _ ∧ va_T _ ((gcO G z).2.2.1 (40 + i)) _ _ _ _ _
      rw [gcO_lo (by omega), gcO_lo (by omega)]
      exact this
    · have hi' : i < 11 := hi
      have hj' : j < 11 := hj
      have e' : (gcO G z).2.2.1 (20 + i) = (gcO G z).2.2.1 (20 + j) := e
      rw [gcO_lo (by omega), gcO_lo (by omega)] at e'
      exact h7.2 i j hi hj e'
  · exact h70.narrow nb
  · exact h71.narrow nb
  · intro q hq
    have := ldc_lt q hq
    rw [gcO_lo (by omega)]
    exact h8 q hq
section OB2
variable {G : GG} {p : Program} {l : Launch} {e : Jvm.Env} {R : Room} {s : State} {m : MethodId} {args : Array Value} {below : List Frame} {meth : Method} {c : Code} {Q : State → Prop} {cc : ByteArray} {nL d pc : Nat} {lo st : List TV} {h : HP} {n : Nat}
theorem V.newO {n' : Nat} (hc : VC G p R s m args meth c RL cc nL d) (sg : SG G) (hx : NX s) (h0 : G.2.2.1 402 = 0) (h14 : G.2.2.1 14 ≤ 6) (hlo : LiveS G lo) (hst : LiveS G st) (hcat : Nat.ble (catS st) 7 = true) (hn : n + 41000 ≤ n' ∧ n' ≤ R.cells ∧ 6 * n' ≤ R.slots) (hr9 : 5 ≤ R.frames ∧ 180 ≤ R.locals) (hd1 : decode cc pc = .ok (.new 9, 3)) (hd2 : decode cc (pc + 3) = .ok (.dup, 1)) (hd3 : decode cc (pc + 4) = .ok (.invokespecial 92, 3))
    (k1 : ∀ z, G.1 ≤ z → EG G (setO G z) → SG (setO G z) → VC (setO G z) p R s m args meth c RL cc nL d → V (setO G z) p l e R s m args below meth c Q nL (pc + 7) lo ((3, 2) :: st) (pt 2 h hpF) n') : V G p l e R s m args below meth c Q nL pc lo st h n := by
  intro ho hs H L ls hL hP hS
  have b := Bnd_of hP
  have eg := setO_eg (z := H.size) h0
  have sg' := setO_sg sg b
  have hc' := eg.vc hc sg'.D
  have hE := hc.2.2.2.2.2.1
  have hgz : G.1 ≤ H.size := by have := b.1; omega
  obtain ⟨e1, e2, e3, e4, e5, e6, -⟩ := hc
  have hcw : ((Value.ref H.size :: st.map (cv G)).map fun v => v.category).sum ≤ 8 := by
    have h1 := catS_le G st
    have h2 := Nat.le_of_ble_eq_true hcat
    show 1 + ((st.map (cv G)).map fun v => v.category).sum ≤ 8
    omega
  refine W.newO (Gc := gcO G H.size) (A0 := va_Aof G) e1 e2 e3 e4 e5 e6.1 hx rfl rfl (fun U H1 hW hz1 ho1 => ?_) (fun q hq => ⟨by omega, Or.inl sg.1⟩) hS hL.1 hcw (by omega) (by show 4 + 1 ≤ R.frames ∧ 8 + (1 + 11) + 40 * 4 ≤ R.locals; omega) hd1 hd2 hd3 (fun H1 L1 hP1 ho1 hz1 hS1 => ?_)
  · have hk : Env G s H1 := hE.kept (Nat.le_trans hS.1 hz1) (fun a ha hna => by rw [ho1 a (Nat.lt_of_lt_of_le ha hS.1)]; exact hS.2.1 a ha hna)
    exact (hk.moved hW).gc sg.1 hgz hz1
  refine W.widen (k := n') (n := 6 * n') (by omega) (by omega) ?_
  have hPn : va_P (setO G H.size).2.1 vwCl (mkW (setO G H.size) (pt 2 h hpF)) H1 := by
    intro i q hq
    rcases mkW_in hq with ⟨a1, a2, -⟩ | ⟨a0, a1, a2, a3, a4, -⟩ | ⟨a1, y, a2, a3, a4⟩
    · rw [mkO_far (h := h) (fun k hk => pt_2o (Or.inl (by omega))), mkO_cong (G' := setO G H.size) (G := G) rfl (setO_o (by omega) (by omega)) (setO_o (by omega) (by omega)), ← mkW_left a1] at a2
      exact (hP i q a2).kept (ho1 _ (hP i q a2).lt)
    · have eq : mkO (Gq (setO G H.size)) (shq (pt 2 h hpF)) = mkO (gcO G H.size) hpF := by
        rw [mkO_far (h := hpF) (fun k hk => by show pt 2 h hpF (k + 100) = hpF k; exact pt_2 (by omega))]
        exact mkO_cong (G' := Gq (setO G H.size)) (G := gcO G H.size) rfl rfl rfl
      rw [eq] at a4
      exact hP1 a1 q a4
    · obtain ⟨f1, f2, f3⟩ := ids_at a3
      rw [setO_o (by omega) (by omega)] at f3
      obtain ⟨j, hj, -⟩ := mkW_law G h f2 f1 f3
      have h1 := (hP j _ hj).kept (ho1 _ (hP j _ hj).lt)
      have hk : KeepC G (setO G H.size) y := by
        refine ⟨?_, fun v j hj2 => ?_, fun v j hj2 => ?_⟩
        · unfold lnL; rw [setO_o (by omega) (by omega)]
        · rw [v] at hj2
          have hj3 : j < G.2.2.1 14 := hj2
          exact setO_o (by omega) (by omega)
        · have l3 : lnL G y ≤ 3 := by
            unfold lnL
            rcases v with v | v
            · rw [if_neg (by omega), if_neg (by omega), if_pos v]; omega
            · rw [if_neg (by omega), if_neg (by omega), if_neg (by omega), if_neg (by omega)]; omega
          unfold slL; rw [setO_o (by omega) (by omega), setO_o (by omega) (by omega)]
      have h2 := cellL_keep eg hk h1
      rw [a4, setO_o (n := 300 + y) (by omega) (by omega), pt_2o (k := 200 + y) (Or.inr (by omega))]
      exact h2
  have k2 := k1 H.size hgz eg sg' hc' ho ⟨trivial, hs⟩ H1 L1 ls (eg.lr ho hlo hL) hPn (by rw [eg.A]; exact hS1)
  have ev : cv (setO G H.size) (3, 2) = .ref H.size := rfl
  rw [List.map_cons, ev, eg.map hs hst] at k2
  exact k2
/-- the first -/
theorem law_first {ls : Array Slot} {n' : Nat} (hc : VC G p R s m args meth c RL cc nL d) (hx : NX s) (hz : G.1 = s.heap.size) (hfl : G.2.2.1 399 = 1) (h401 : G.2.2.1 401 = 1) (h301 : G.2.2.1 301 = G.1) (hcl : cls2 G) (ho : okS lo) (hL : LR G nL ls lo) (hn : 41000 ≤ n' ∧ n' ≤ R.cells ∧ 6 * n' ≤ R.slots) (hr9 : 5 ≤ R.frames ∧ 180 ≤ R.locals) (hd1 : decode cc 0 = .ok (.new 9, 3)) (hd2 : decode cc 3 = .ok (.dup, 1)) (hd3 : decode cc 4 = .ok (.invokespecial 92, 3))
    (k1 : V G p l e R s m args below meth c Q nL 7 lo [(3, 1)] hpF n') : W p l e R s m args below meth c s.heap [] 0 0 Q (F0 m 0 ls []) := by
  have hE := hc.2.2.2.2.2.1
  obtain ⟨e1, e2, e3, e4, e5, e6, -⟩ := hc
  refine W.newO (pc := 0) (Gc := G) (A0 := va_Aof G) e1 e2 e3 e4 e5 e6.1 hx hfl hz (fun U H1 hW hz1 ho1 => ?_) (fun q hq => ⟨by omega, Or.inl hfl⟩) va_S.rf hL.1 (show 1 + 0 ≤ 8 by decide) (by omega) (by show 4 + 1 ≤ R.frames ∧ 8 + (1 + 11) + 40 * 4 ≤ R.locals; omega) hd1 hd2 hd3 (fun H1 L1 hP1 ho1 hz1 hS1 => ?_)
  · exact (hE.kept hz1 (fun a ha _ => ho1 a ha)).moved hW
  refine W.widen (k := n') (n := 6 * n') (by omega) (by omega) ?_
  rw [← hcl.mk hpF] at hP1
  have k2 := k1 ho ⟨trivial, trivial⟩ H1 L1 ls hL hP1 hS1
  have ev : cv G (3, 1) = .ref s.heap.size := by
    show (if (1 : Int) = 0 then Value.ref (G.2.2.1 10) else if G.2.2.1 401 = 0 then Value.null else Value.ref (G.2.2.1 301)) = _
    rw [if_neg (by decide), if_neg (by omega), h301, hz]
  rw [List.map_cons, List.map_nil, ev] at k2
  exact k2
end OB2
