/-! curves: what it answers -/
def LeafP (N : Nat) (pr : Nat → Int) (c : Nat) : Prop := ∀ i : Nat, i < N → pr i ≠ (c : Int)
def CurAt (G : GG) (h : HP) (j k : Nat) : Prop := (G.2.2.1 (420 + 3 * j + k) = 1 ∧ G.2.2.1 (520 + 3 * j + k) = 1 ∧ wq (h (220 + 3 * j + k) 0 0, h (220 + 3 * j + k) 0 1, h (220 + 3 * j + k) 0 2)) ∨ (G.2.2.1 (420 + 3 * j + k) = 0 ∧ G.2.2.1 (520 + 3 * j + k) = 0)
def CuI (N : Nat) (pr : Nat → Int) (G0 G : GG) (h0 h : HP) : Prop :=
  EG G0 G ∧ SG G ∧ (G.2.2.1 14 = N ∧ G.2.2.1 405 = 1 ∧ ∀ j, j < N → G.2.2.1 (410 + j) = 1) ∧ (∀ j k, k < 3 → 3 * j + k < 20 → CurAt G h j k) ∧ (∀ j, 3 * j < 20 → G.2.2.1 (420 + 3 * j) = 1 → LeafP N pr j) ∧
  (∀ n, 300 ≤ n → n ≠ 305 → n ≠ 405 → ¬ (310 ≤ n ∧ n < 340) → ¬ (410 ≤ n ∧ n < 440) → ¬ (520 ≤ n ∧ n < 540) → G.2.2.1 n = G0.2.2.1 n) ∧ ∀ k, k < 220 ∨ 240 ≤ k → h k = h0 k
theorem CuI.set {N : Nat} {pr : Nat → Int} {G0 G G' : GG} {h0 h h' : HP} {c k : Nat} (q : CuI N pr G0 G h0 h) (hN : N ≤ 6) (hc : c < N) (hk : k < 3) (nw : New1 G G' (20 + 3 * c + k)) (hw : wq (h' (200 + (20 + 3 * c + k)) 0 0, h' (200 + (20 + 3 * c + k)) 0 1, h' (200 + (20 + 3 * c + k)) 0 2)) (hh : ∀ i, i ≠ 200 + (20 + 3 * c + k) → h' i = h i) (hleaf : k = 0 → LeafP N pr c) :
    CuI N pr G0 (setW G' (20 + 3 * c + k)) h0 h' ∧ (setW G' (20 + 3 * c + k)).2.2.1 (420 + 3 * c + k) = 1 ∧ ∀ j k', k' < 3 → 3 * j + k' < 20 → (j ≠ c ∨ k' ≠ k) → (setW G' (20 + 3 * c + k)).2.2.1 (420 + 3 * j + k') = G.2.2.1 (420 + 3 * j + k') := by
  obtain ⟨q1, q2, ⟨q31, q32, q33⟩, q4, q5, q6, q7⟩ := q
  obtain ⟨n1, n2, n3, n4, n5⟩ := nw
  have s1 : (setW G' (20 + 3 * c + k)).2.2.1 (420 + 3 * c + k) = 1 := by
    rw [setW_o (by omega), show 420 + 3 * c + k = 400 + (20 + 3 * c + k) by omega]
    exact n3
  have s2 : (setW G' (20 + 3 * c + k)).2.2.1 (520 + 3 * c + k) = 1 := by
    rw [show 520 + 3 * c + k = 500 + (20 + 3 * c + k) by omega]
    exact setW_1
  have oth : ∀ n, 300 ≤ n → n ≠ 320 + 3 * c + k → n ≠ 420 + 3 * c + k → n ≠ 520 + 3 * c + k → (setW G' (20 + 3 * c + k)).2.2.1 n = G.2.2.1 n := fun n a b d e => by
    rw [setW_o (by omega)]
    exact n5 n a (by omega) (by omega)
  refine ⟨⟨(q1.tr n1).tr setW_eg, setW_sg n2, ⟨?_, ?_, fun j hj => ?_⟩, fun j k' hk' hj => ?_, fun j hj he => ?_, fun n a b d e f g => ?_, fun i hi => ?_⟩, s1, fun j k' hk' hj hne => ?_⟩
  · rw [setW_o (by omega), n4 (by omega)]; exact q31
  · rw [oth 405 (by omega) (by omega) (by omega) (by omega)]; exact q32
  · rw [oth (410 + j) (by omega) (by omega) (by omega) (by omega)]; exact q33 j hj
  · by_cases z : j = c ∧ k' = k
    · obtain ⟨rfl, rfl⟩ := z
      refine Or.inl ⟨s1, s2, ?_⟩
      rw [show 220 + 3 * j + k' = 200 + (20 + 3 * j + k') by omega]
      exact hw
    · have := q4 j k' hk' hj
      unfold CurAt at this ⊢
      rw [oth _ (by omega) (by omega) (by omega) (by omega), oth _ (by omega) (by omega) (by omega) (by omega), hh _ (by omega)]
      exact this
  · by_cases z : j = c ∧ k = 0
    · obtain ⟨rfl, rfl⟩ := z
      exact hleaf rfl
    · rw [oth _ (by omega) (by omega) (by omega) (by omega)] at he
      exact q5 j hj he
  · rw [oth n a (by omega) (by omega) (by omega)]; exact q6 n a b d e f g
  · rw [hh i (by omega)]; exact q7 i hi
  · exact oth _ (by omega) (by omega) (by omega) (by omega)
theorem bAnd_in (x y : Int) : inR (bAnd x y) := by
  have b1 := Int32.le_toInt (Int32.ofInt x &&& Int32.ofInt y)
  have b2 := Int32.toInt_lt (Int32.ofInt x &&& Int32.ofInt y)
  unfold inR bAnd
  omega
theorem leaf_p {G : GG} {h : HP} {N : Nat} {pr : Nat → Int} {c : Nat} {P : Int → HP → Prop} (hN : G.2.2.1 14 = N) (hN6 : N ≤ 6) (hp : ∀ c : Nat, c < N → (pr c = 12 ∨ (0 ≤ pr c ∧ pr c < (c : Int))) ∧ h 204 0 (c : Int) = rc (pr c)) (hc : c < N) (k1 : LeafP N pr c → P 1 h) (k0 : P 0 h) : wL_isLeaf G (c : Int) h P := by
  have ei : npI G = (N : Int) := by unfold npI; rw [hN]
  have loop : ∀ (d k : Nat), k + d = N → (∀ j : Nat, j < k → pr j ≠ (c : Int)) → wL_isLeaf_8 G (c : Int) (npI G) h (P 1 h) (P 0 h) (d + 1) (k : Int) := by
    intro d
    induction d with
    | zero =>
      intro k hk no
      rw [wL_isLeaf_8, ei]
      exact ⟨by omega, by omega, fun _ => k1 (fun i hi => no i (by omega)), fun z => absurd (by omega) z⟩
    | succ d ih =>
      intro k hk no
      obtain ⟨r1, r2⟩ := hp k (by omega)
      have e4 : h (kd 4) 0 (k : Int) = rc (pr k) := r2
      have rb : -1 ≤ rc (pr k) ∧ rc (pr k) ≤ 12 := by unfold rc; split <;> rcases r1 with z | z <;> omega
      rw [wL_isLeaf_8, ei, e4]
      refine ⟨by omega, by omega, fun z => absurd z (by omega), fun _ => ⟨by omega, by omega, by omega, fun z => ?_, fun _ => k0⟩⟩
      have := ih (k + 1) (by omega) (fun j hj => by
        rcases Nat.lt_or_ge j k with u | u
        · exact no j u
        · have ej : j = k := by omega
          subst ej
          intro w
          apply z
          unfold rc
          rw [if_neg (by omega), w])
      rw [ei, show ((k + 1 : Nat) : Int) = (k : Int) + 1 by omega] at this
      exact this
  unfold wL_isLeaf
  exact ⟨_, loop N 0 (by omega) (fun j hj => absurd hj (Nat.not_lt_zero j))⟩
section CUV
variable {G0 G : GG} {p : Program} {l : Launch} {e : Jvm.Env} {s : State} {m : MethodId} {args : Array Value} {below : List Frame} {meth : Method} {c : Code} {Q : State → Prop} {pc : Nat} {lo : List TV} {h0 h : HP} {n N : Nat} {pr : Nat → Int}
theorem CuI.ex (q : CuI N pr G0 G h0 h) (hN : N ≤ 6) {c : Nat} (hc : c < N) : exL G (10 + (c : Int)) := ⟨by omega, by rw [show 400 + (10 + (c : Int)).toNat = 410 + c by omega]; exact q.2.2.1.2.2 c hc, by rw [q.2.2.1.1]; exact hN⟩
theorem CuI.e5 (q : CuI N pr G0 G h0 h) (hN : N ≤ 6) : exL G 5 := ⟨by decide, q.2.2.1.2.1, by rw [q.2.2.1.1]; exact hN⟩
theorem V.curst {c0 k : Nat} {v kk cc0 : Int} (hc : VC G p (rmD 5 25) s m args meth c RL cL_curves 7 5) (hm : MC G s) (q : CuI N pr G0 G h0 h) (hN : N ≤ 6) (hc0 : c0 < N) (hk : k < 3) (un : G.2.2.1 (420 + 3 * c0 + k) = 0) (hleaf : k = 0 → LeafP N pr c0) (hlo : LiveS G lo) (ek : kk = (k : Int)) (ec : cc0 = 10 + (c0 : Int)) (hn : n + 1 ≤ 25) (hd : decode cL_curves pc = .ok (.invokestatic 30, 3)) (hd2 : decode cL_curves (pc + 3) = .ok (.aastore, 1))
    (k1 : ∀ (G' : GG) (h' : HP), CuI N pr G0 G' h0 h' → EG G G' → VC G' p (rmD 5 25) s m args meth c RL cL_curves 7 5 → G'.2.2.1 (420 + 3 * c0 + k) = 1 → (∀ j k', k' < 3 → 3 * j + k' < 20 → (j ≠ c0 ∨ k' ≠ k) → G'.2.2.1 (420 + 3 * j + k') = G.2.2.1 (420 + 3 * j + k')) → V G' p l e (rmD 5 25) s m args below meth c Q 7 (pc + 4) lo [] h' (n + 1)) : V G p l e (rmD 5 25) s m args below meth c Q 7 pc lo [(0, v), (0, kk), (3, cc0)] h n := by
  have e14 := q.2.2.1.1
  have u5 : G.2.2.1 (520 + 3 * c0 + k) = 0 := by
    rcases q.2.2.2.1 c0 k hk (by omega) with z | z
    · omega
    · exact z.2
  have lst : LiveS G [(0, kk), (3, cc0)] := LiveS.cons (live_i G kk) (LiveS.cons (live_x (by omega) (by rw [show 400 + cc0.toNat = 410 + c0 by omega]; exact q.2.2.1.2.2 c0 hc0)) (LiveS.nil G))
  have hcell : n + 1 ≤ (rmD 5 25).cells ∧ 6 * n + 6 * 1 ≤ (rmD 5 25).slots := ⟨hn, by show 6 * n + 6 * 1 ≤ 6 * 25; omega⟩
  refine V.callR (mc := 1) hc hm (qL_curve G l q.2.1 (20 + 3 * c0 + k) (by omega) (by rw [show 400 + (20 + 3 * c0 + k) = 420 + 3 * c0 + k by omega]; exact un) (by rw [show 500 + (20 + 3 * c0 + k) = 520 + 3 * c0 + k by omega]; exact u5) (by rw [e14]; exact hN) v h) mo_L_curve ml_L_30 (as := [(0, v)]) (st := [(0, kk), (3, cc0)]) rfl hlo lst rfl rfl rfl rfl hcell hd (fun G' h' x hp eg sg hc' hx => ?_)
  obtain ⟨rfl, nw, hw, hh⟩ := hp
  obtain ⟨q', f1, f2⟩ := q.set hN hc0 hk nw hw hh hleaf
  have e14' : G'.2.2.1 14 = N := by rw [nw.2.2.2.1 (by omega)]; exact e14
  refine V.rowst (c0 := c0) (k := k) hc' sg (hm.eg eg) (by rw [e14']; exact hN) (by rw [e14']; exact hc0) hk ?_ ?_ (by omega) ek ec (hlo.eg eg) (LiveS.nil G') hd2 (fun eg2 sg2 hc2 => ?_)
  · rw [nw.2.2.2.2 (410 + c0) (by omega) (by omega) (by omega)]; exact q.2.2.1.2.2 c0 hc0
  · rw [show 420 + 3 * c0 + k = 400 + (20 + 3 * c0 + k) by omega]; exact nw.2.2.1
  · exact k1 _ _ q' (eg.tr eg2) hc2 f1 f2
end CUV
def PCus (N : Nat) (pr : Nat → Int) (G : GG) (h : HP) (G' : GG) (h' : HP) (x : Int) : Prop := x = 5 ∧ CuI N pr G G' h h' ∧ (∀ j, j < N → G'.2.2.1 (420 + 3 * j + 1) = 1) ∧ ∀ j k, N ≤ j → k < 3 → 3 * j + k < 20 → G'.2.2.1 (420 + 3 * j + k) = 0
theorem qL_curves (G : GG) (l : Launch) (sg : SG G) (hlen : G.2.2.1 11 ≤ 1000) (N : Nat) (pr : Nat → Int) (hN1 : 1 ≤ N ∧ N ≤ 6) (hN : G.2.2.1 14 = N) (h404 : G.2.2.1 404 = 1) (hz : ∀ y, 5 ≤ y → y < 40 → G.2.2.1 (400 + y) = 0) (h5 : ∀ y, y < 40 → G.2.2.1 (500 + y) = 0) (h : HP) (hp : ∀ c : Nat, c < N → (pr c = 12 ∨ (0 ≤ pr c ∧ pr c < (c : Int))) ∧ h 204 0 (c : Int) = rc (pr c)) : CnR l G yL_curves cL_curves 7 (.array (.array (.array .int))) 5 25 [(3, 0), (0, 1), (3, 4)] h (PCus N pr G h) := by
  refine CnR.of (lo := [(3, 0), (0, 1), (3, 4), (1, 0), (1, 0), (1, 0), (1, 0)]) (by decide) rfl rfl rfl ?_
  intro p e s m args below meth c hc hr hm
  have hc : VC G p (rmD 5 25) s m args meth c RL cL_curves 7 5 := hc
  have rm : ∀ k, k ≤ 25 → k ≤ (rmD 5 25).cells ∧ 6 * k ≤ (rmD 5 25).slots := fun k hk => ⟨hk, by show 6 * k ≤ 6 * 25; omega⟩
  have ex4 : exL G 4 := ⟨by decide, h404, by omega⟩
  have hln : ((lnL G (4 : Int).toNat : Nat) : Int) = (N : Int) := by
    show ((G.2.2.1 14 : Nat) : Int) = _
    rw [hN]
  refine V.aloadC_n hc ex4.rf dL_curves_0 rfl rfl ?_
  refine V.laln (ln := (N : Int)) hc ex4 (by decide) hln dL_curves_1 ?_
  refine V.iconst hc dL_curves_2 ?_
  refine V.newM (N := N) (n' := 7) hc sg hm hN hN1.2 rfl hz (fun y y2 y4 => h5 y y4) (LiveS.cons (live_0 G) (LiveS.cons (live_i G 1) (LiveS.cons (live_x (by decide) h404) (LiveS.cons (live_u G 0) (LiveS.cons (live_u G 0) (LiveS.cons (live_u G 0) (LiveS.cons (live_u G 0) (LiveS.nil G)))))))) (LiveS.nil G) cb_L_28 ⟨by omega, rm 7 (by decide)⟩ dL_curves_3 (fun a eg sg' hc' => ?_)
  have q0 : CuI N pr G (setM G a N) h h := by
    refine ⟨eg, sg', ⟨?_, rfl, fun j hj => setM_1 hj (by omega)⟩, fun j k hk hj => Or.inr ⟨?_, ?_⟩, fun j hj he => ?_, fun n a b d e f g => setM_o (by omega) (by omega) (by omega) (by omega), fun k _ => rfl⟩
    · rw [setM_o (by omega) (by omega) (by omega) (by omega)]; exact hN
    · rw [setM_o (by omega) (by omega) (by omega) (by omega), show 420 + 3 * j + k = 400 + (20 + 3 * j + k) by omega]; exact hz _ (by omega) (by omega)
    · rw [setM_o (by omega) (by omega) (by omega) (by omega), show 520 + 3 * j + k = 500 + (20 + 3 * j + k) by omega]; exact h5 _ (by omega)
    · rw [setM_o (by omega) (by omega) (by omega) (by omega), show 420 + 3 * j = 400 + (20 + 3 * j) by omega, hz _ (by omega) (by omega)] at he
      cases he
  have loop : ∀ (d c' : Nat) (G1 : GG) (h1 : HP), c' + d = N → CuI N pr G G1 h h1 → VC G1 p (rmD 5 25) s m args meth c RL cL_curves 7 5 → (∀ j k, c' ≤ j → k < 3 → 3 * j + k < 20 → G1.2.2.1 (420 + 3 * j + k) = 0) → (∀ j, j < c' → G1.2.2.1 (420 + 3 * j + 1) = 1) → V G1 p l e (rmD 5 25) s m args below meth c (MQ below (QR G (PCus N pr G h)) args s 25 (6 * 25) (va_Aof G)) 7 11 [(3, 0), (0, 1), (3, 4), (3, 5), (0, (c' : Int)), (1, 0), (1, 0)] [] h1 (7 + 3 * c') := by
    intro d
    induction d with
    | zero =>
      intro c' G1 h1 hcd q hc1 un pd
      have e4 : exL G1 4 := ⟨by decide, (q.1.2.2.2.2.2 4 (by decide) h404).1, by rw [q.2.2.1.1]; exact hN1.2⟩
      have hl1 : ((lnL G1 (4 : Int).toNat : Nat) : Int) = (N : Int) := by
        show ((G1.2.2.1 14 : Nat) : Int) = _
        rw [q.2.2.1.1]
      refine V.iload hc1 dL_curves_11 rfl ?_
      refine V.aloadC_n hc1 e4.rf dL_curves_13 rfl rfl ?_
      refine V.laln (ln := (N : Int)) hc1 e4 (by decide) hl1 dL_curves_14 ?_
      refine V.icmp_ge hc1 (tgt := 143) dL_curves_15 (by decide) (by unfold inR; omega) (by unfold inR; omega) (fun _ => ?_) (fun z => absurd (by omega) z)
      refine V.aloadC_n hc1 (q.e5 hN1.2).rf dL_curves_143 rfl rfl ?_
      refine V.wid (n' := 25) (by omega) ?_
      exact V.aret (G := G) hc1 q.1 q.2.1 hr (q.e5 hN1.2).rf dL_curves_144 ⟨rfl, q, fun j hj => pd j (by omega), fun j k hj hk h3 => un j k (by omega) hk h3⟩
    | succ d ih =>
      intro c' G1 h1 hcd q hc1 un pd
      have hcN : c' < N := by omega
      have e4f : ∀ {G2 : GG}, EG G G2 → G2.2.2.1 14 = N → exL G2 4 := fun x14 y14 => ⟨by decide, (x14.2.2.2.2.2 4 (by decide) h404).1, by rw [y14]; exact hN1.2⟩
      have e4 := e4f q.1 q.2.2.1.1
      have hl1 : ((lnL G1 (4 : Int).toNat : Nat) : Int) = (N : Int) := by
        show ((G1.2.2.1 14 : Nat) : Int) = _
        rw [q.2.2.1.1]
      have l11 : ∀ {G2 : GG}, EG G G2 → G2.2.2.1 11 ≤ 1000 := fun x11 => by rw [x11.2.2.2.1 11 (by decide) (by decide)]; exact hlen
      have npi : ∀ {G2 : GG}, G2.2.2.1 14 = N → npI G2 = (N : Int) := fun y14 => by unfold npI; rw [y14]
      have rn := rm (7 + 3 * c') (by omega)
      refine V.iload hc1 dL_curves_11 rfl ?_
      refine V.aloadC_n hc1 e4.rf dL_curves_13 rfl rfl ?_
      refine V.laln (ln := (N : Int)) hc1 e4 (by decide) hl1 dL_curves_14 ?_
      refine V.icmp_ge hc1 (tgt := 143) dL_curves_15 (by decide) (by unfold inR; omega) (by unfold inR; omega) (fun z => absurd z (by omega)) (fun _ => ?_)
      refine V.aloadC_n hc1 (rf_0 _) dL_curves_18 rfl rfl ?_
      refine V.iload_n hc1 dL_curves_19 rfl rfl ?_
      refine V.iconst hc1 dL_curves_20 ?_
      refine V.iload hc1 dL_curves_21 rfl ?_
      refine V.imul hc1 dL_curves_23 ?_
      refine V.iadd hc1 dL_curves_24 ?_
      refine V.cell hc1 (l11 q.1) (by omega) rfl rfl rfl rn dL_curves_25 (fun v hv => ?_)
      refine V.istore hc1 dL_curves_28 rfl (lo' := [(3, 0), (0, 1), (3, 4), (3, 5), (0, (c' : Int)), (0, v), (1, 0)]) rfl ?_
      refine V.aloadC_n hc1 (rf_0 _) dL_curves_30 rfl rfl ?_
      refine V.iload_n hc1 dL_curves_31 rfl rfl ?_
      refine V.iconst hc1 dL_curves_32 ?_
      refine V.iload hc1 dL_curves_33 rfl ?_
      refine V.imul hc1 dL_curves_35 ?_
      refine V.iadd hc1 dL_curves_36 ?_
      refine V.iconst hc1 dL_curves_37 ?_
      refine V.iadd hc1 dL_curves_38 ?_
      refine V.cell hc1 (l11 q.1) (by omega) rfl rfl rfl rn dL_curves_39 (fun w hw => ?_)
      refine V.istore hc1 dL_curves_42 rfl (lo' := [(3, 0), (0, 1), (3, 4), (3, 5), (0, (c' : Int)), (0, v), (0, w)]) rfl ?_
      have liv : ∀ {G2 : GG} {h2 : HP}, CuI N pr G G2 h h2 → LiveS G2 [(3, 0), (0, 1), (3, 4), (3, 5), (0, (c' : Int)), (0, v), (0, w)] := fun {G2 h2} q2 => LiveS.cons (live_0 _) (LiveS.cons (live_i _ _) (LiveS.cons (live_x (by decide) (q2.1.2.2.2.2.2 4 (by decide) h404).1) (LiveS.cons (live_x (by decide) q2.2.2.1.2.1) (LiveS.cons (live_i _ _) (LiveS.cons (live_i _ _) (LiveS.cons (live_i _ _) (LiveS.nil _)))))))
      -- the next class
      have at137 : ∀ (G2 : GG) (h2 : HP), CuI N pr G G2 h h2 → VC G2 p (rmD 5 25) s m args meth c RL cL_curves 7 5 → (∀ j k, c' < j → k < 3 → 3 * j + k < 20 → G2.2.2.1 (420 + 3 * j + k) = 0) → (∀ j, j ≤ c' → G2.2.2.1 (420 + 3 * j + 1) = 1) → V G2 p l e (rmD 5 25) s m args below meth c (MQ below (QR G (PCus N pr G h)) args s 25 (6 * 25) (va_Aof G)) 7 137 [(3, 0), (0, 1), (3, 4), (3, 5), (0, (c' : Int)), (0, v), (0, w)] [] h2 (7 + 3 * c' + 3) := by
        intro G2 h2 q2 hc2 un2 pd2
        refine V.iinc hc2 dL_curves_137 rfl rfl (lo' := [(3, 0), (0, 1), (3, 4), (3, 5), (0, (c' : Int) + 1), (0, v), (0, w)]) rfl ?_
        refine V.goto hc2 (tgt := 11) dL_curves_140 (by decide) ?_
        refine V.drop (lo' := [(3, 0), (0, 1), (3, 4), (3, 5), (0, (c' : Int) + 1), (1, 0), (1, 0)]) ⟨Or.inr rfl, Or.inr rfl, Or.inr rfl, Or.inr rfl, Or.inr rfl, Or.inl rfl, Or.inl rfl, trivial⟩ ?_
        have := ih (c' + 1) G2 h2 (by omega) q2 hc2 (fun j k hj => un2 j k (by omega)) (fun j hj => pd2 j (by omega))
        rw [show ((c' + 1 : Nat) : Int) = (c' : Int) + 1 by omega, show 7 + 3 * (c' + 1) = 7 + 3 * c' + 3 by omega] at this
        exact this
      have at113 : ∀ (G2 : GG) (h2 : HP), CuI N pr G G2 h h2 → VC G2 p (rmD 5 25) s m args meth c RL cL_curves 7 5 → (∀ j k, c' < j → k < 3 → 3 * j + k < 20 → G2.2.2.1 (420 + 3 * j + k) = 0) → G2.2.2.1 (420 + 3 * c' + 2) = 0 → (∀ j, j ≤ c' → G2.2.2.1 (420 + 3 * j + 1) = 1) → V G2 p l e (rmD 5 25) s m args below meth c (MQ below (QR G (PCus N pr G h)) args s 25 (6 * 25) (va_Aof G)) 7 113 [(3, 0), (0, 1), (3, 4), (3, 5), (0, (c' : Int)), (0, v), (0, w)] [] h2 (7 + 3 * c' + 2) := by
        intro G2 h2 q2 hc2 un2 u2 pd2
        refine V.iload hc2 dL_curves_113 rfl ?_
        refine V.ldc (x := 1610612736) hc2 kb_L_38 dL_curves_115 ?_
        refine V.iand hc2 dL_curves_117 ?_
        refine V.if_ne hc2 (tgt := 137) dL_curves_118 (by decide) (bAnd_in _ _) (fun _ => ?_) (fun _ => ?_)
        · exact V.wid (n' := 7 + 3 * c' + 3) (by omega) (at137 G2 h2 q2 hc2 un2 pd2)
        · refine V.aloadC_n hc2 (q2.e5 hN1.2).rf dL_curves_121 rfl rfl ?_
          refine V.iload hc2 dL_curves_122 rfl ?_
          refine V.laald hc2 (q2.e5 hN1.2) (q2.ex hN1.2 hcN) (by rw [npi q2.2.2.1.1]; omega) dL_curves_124 ?_
          refine V.iconst hc2 dL_curves_125 ?_
          refine V.iload hc2 dL_curves_126 rfl ?_
          refine V.iconst hc2 dL_curves_128 ?_
          refine V.ishr hc2 dL_curves_129 ?_
          refine V.iload hc2 dL_curves_130 rfl ?_
          refine V.ixor hc2 dL_curves_132 ?_
          refine V.curst (c0 := c') (k := 2) hc2 (hm.eg q2.1) q2 hN1.2 hcN (by decide) u2 (fun z => absurd z (by decide)) (liv q2) rfl rfl (by omega) dL_curves_133 dL_curves_136 (fun G3 h3 q3 eg3 hc3 s3 o3 => ?_)
          refine at137 G3 h3 q3 hc3 (fun j k hj hk h3' => ?_) (fun j hj => ?_)
          · rw [o3 j k hk h3' (Or.inl (by omega))]; exact un2 j k hj hk h3'
          · rw [o3 j 1 (by decide) (by omega) (Or.inr (by decide))]; exact pd2 j hj
      have at84 : ∀ (G2 : GG) (h2 : HP), CuI N pr G G2 h h2 → VC G2 p (rmD 5 25) s m args meth c RL cL_curves 7 5 → (∀ j k, c' < j → k < 3 → 3 * j + k < 20 → G2.2.2.1 (420 + 3 * j + k) = 0) → G2.2.2.1 (420 + 3 * c' + 0) = 0 → G2.2.2.1 (420 + 3 * c' + 2) = 0 → (∀ j, j ≤ c' → G2.2.2.1 (420 + 3 * j + 1) = 1) → V G2 p l e (rmD 5 25) s m args below meth c (MQ below (QR G (PCus N pr G h)) args s 25 (6 * 25) (va_Aof G)) 7 84 [(3, 0), (0, 1), (3, 4), (3, 5), (0, (c' : Int)), (0, v), (0, w)] [] h2 (7 + 3 * c' + 1) := by
        intro G2 h2 q2 hc2 un2 u0 u2 pd2
        have rn2 := rm (7 + 3 * c' + 1) (by omega)
        have e42 := e4f q2.1 q2.2.2.1.1
        have hp2 : ∀ c : Nat, c < N → (pr c = 12 ∨ (0 ≤ pr c ∧ pr c < (c : Int))) ∧ h2 204 0 (c : Int) = rc (pr c) := fun c hc => by
          rw [q2.2.2.2.2.2.2 204 (Or.inl (by decide))]; exact hp c hc
        refine V.aloadC_n hc2 e42.rf dL_curves_84 rfl rfl ?_
        refine V.iload hc2 dL_curves_85 rfl ?_
        refine V.callSI hc2 (qL_isLeaf G2 l e42 (c' : Int) h2 (fun x h' => (x = 1 → LeafP N pr c') ∧ (x = 0 ∨ x = 1) ∧ h' = h2) (leaf_p q2.2.2.1.1 hN1.2 hp2 hcN (fun z => ⟨fun _ => z, Or.inr rfl, rfl⟩) ⟨fun z => absurd z (by decide), Or.inl rfl, rfl⟩)) mo_L_isLeaf ml_L_34 (as := [(3, 4), (0, (c' : Int))]) rfl rfl rfl rfl rfl rn2 dL_curves_87 (fun x h' hx => ?_)
        obtain ⟨x1, x2, rfl⟩ := hx
        refine V.if_eq hc2 (tgt := 113) dL_curves_90 (by decide) (by unfold inR; omega) (fun _ => ?_) (fun xn => ?_)
        · exact V.wid (n' := 7 + 3 * c' + 2) (by omega) (at113 G2 h' q2 hc2 un2 u2 pd2)
        · have lf := x1 (by omega)
          refine V.iload hc2 dL_curves_93 rfl ?_
          refine V.iconst hc2 dL_curves_95 ?_
          refine V.iand hc2 dL_curves_96 ?_
          refine V.if_le hc2 (tgt := 113) dL_curves_97 (by decide) (bAnd_in _ _) (fun _ => ?_) (fun _ => ?_)
          · exact V.wid (n' := 7 + 3 * c' + 2) (by omega) (at113 G2 h' q2 hc2 un2 u2 pd2)
          · refine V.aloadC_n hc2 (q2.e5 hN1.2).rf dL_curves_100 rfl rfl ?_
            refine V.iload hc2 dL_curves_101 rfl ?_
            refine V.laald hc2 (q2.e5 hN1.2) (q2.ex hN1.2 hcN) (by rw [npi q2.2.2.1.1]; omega) dL_curves_103 ?_
            refine V.iconst hc2 dL_curves_104 ?_
            refine V.iload hc2 dL_curves_105 rfl ?_
            refine V.iconst hc2 dL_curves_107 ?_
            refine V.ishr hc2 dL_curves_108 ?_
            refine V.curst (c0 := c') (k := 0) hc2 (hm.eg q2.1) q2 hN1.2 hcN (by decide) u0 (fun _ => lf) (liv q2) rfl rfl (by omega) dL_curves_109 dL_curves_112 (fun G3 h3 q3 eg3 hc3 s3 o3 => ?_)
            refine at113 G3 h3 q3 hc3 (fun j k hj hk h3' => ?_) ?_ (fun j hj => ?_)
            · rw [o3 j k hk h3' (Or.inl (by omega))]; exact un2 j k hj hk h3'
            · rw [o3 c' 2 (by decide) (by omega) (Or.inr (by decide))]; exact u2
            · rw [o3 j 1 (by decide) (by omega) (Or.inr (by decide))]; exact pd2 j hj
      refine V.aloadC_n hc1 (q.e5 hN1.2).rf dL_curves_44 rfl rfl ?_
      refine V.iload hc1 dL_curves_45 rfl ?_
      refine V.laald hc1 (q.e5 hN1.2) (q.ex hN1.2 hcN) (by rw [npi q.2.2.1.1]; omega) dL_curves_47 ?_
      refine V.iconst hc1 dL_curves_48 ?_
      refine V.iload hc1 dL_curves_49 rfl ?_
      refine V.iconst hc1 dL_curves_51 ?_
      refine V.iand hc1 dL_curves_52 ?_
      have u1 := un c' 1 (Nat.le_refl _) (by decide) (by omega)
      have lsk : LiveS G1 [(0, 1), (3, 10 + (c' : Int))] := LiveS.cons (live_i _ _) (LiveS.cons (live_x (by omega) (by rw [show 400 + (10 + (c' : Int)).toNat = 410 + c' by omega]; exact q.2.2.1.2.2 c' hcN)) (LiveS.nil _))
      refine V.if_ne hc1 (tgt := 76) dL_curves_53 (by decide) (bAnd_in _ _) (fun _ => ?_) (fun _ => ?_)
      · refine V.iload hc1 dL_curves_76 rfl ?_
        refine V.iconst hc1 dL_curves_78 ?_
        refine V.ishr hc1 dL_curves_79 ?_
        refine V.curst (c0 := c') (k := 1) hc1 (hm.eg q.1) q hN1.2 hcN (by decide) u1 (fun z => absurd z (by decide)) (liv q) rfl rfl (by omega) dL_curves_80 dL_curves_83 (fun G3 h3 q3 eg3 hc3 s3 o3 => ?_)
        refine at84 G3 h3 q3 hc3 (fun j k hj hk h3' => ?_) ?_ ?_ (fun j hj => ?_)
        · rw [o3 j k hk h3' (Or.inl (by omega))]; exact un j k (by omega) hk h3'
        · rw [o3 c' 0 (by decide) (by omega) (Or.inr (by decide))]; exact un c' 0 (Nat.le_refl _) (by decide) (by omega)
        · rw [o3 c' 2 (by decide) (by omega) (Or.inr (by decide))]; exact un c' 2 (Nat.le_refl _) (by decide) (by omega)
        · by_cases z : j = c'
          · subst z; exact s3
          · rw [o3 j 1 (by decide) (by omega) (Or.inl z)]; exact pd j (by omega)
      · refine V.iconst hc1 dL_curves_56 ?_
        have u5 : G1.2.2.1 (520 + 3 * c' + 1) = 0 := by
          rcases q.2.2.2.1 c' 1 (by decide) (by omega) with z | z
          · omega
          · exact z.2
        have l3 : ∀ a, lnL (setA G1 (20 + 3 * c' + 1) a 3) (20 + 3 * c' + 1) = 3 := fun a => by
          unfold lnL
          rw [if_neg (by omega), if_neg (by omega), if_neg (by omega), if_neg (by omega)]
        have hi : intL ((20 + 3 * c' + 1 : Nat) : Int) := by unfold intL; omega
        have rn1 := rm (7 + 3 * c' + 1) (by omega)
        refine V.newI (x := 20 + 3 * c' + 1) (N := 3) (n' := 7 + 3 * c' + 1) hc1 q.2.1 (by omega) hi (by rw [show 400 + (20 + 3 * c' + 1) = 420 + 3 * c' + 1 by omega]; exact u1) (by rw [show 500 + (20 + 3 * c' + 1) = 520 + 3 * c' + 1 by omega]; exact u5) (by rw [q.2.2.1.1]; exact hN1.2) (fun z => by omega) l3 rfl (by decide) (liv q) lsk abI ⟨by omega, by omega, rn1⟩ dL_curves_57 (fun a nw hc2 => ?_)
        have e14 : (setA G1 (20 + 3 * c' + 1) a 3).2.2.1 14 = N := by rw [nw.2.2.2.1 (by omega)]; exact q.2.2.1.1
        have ex : exL (setA G1 (20 + 3 * c' + 1) a 3) ((20 + 3 * c' + 1 : Nat) : Int) := ⟨by omega, by rw [show 400 + ((20 + 3 * c' + 1 : Nat) : Int).toNat = 400 + (20 + 3 * c' + 1) by omega]; exact nw.2.2.1, by rw [e14]; exact hN1.2⟩
        have hl2 : ((lnL (setA G1 (20 + 3 * c' + 1) a 3) ((20 + 3 * c' + 1 : Nat) : Int).toNat : Nat) : Int) = 3 := by rw [show ((20 + 3 * c' + 1 : Nat) : Int).toNat = 20 + 3 * c' + 1 by omega, l3]; rfl
        have nq : ((3, ((20 + 3 * c' + 1 : Nat) : Int)) : TV).1 ≠ 2 := by show (3 : Nat) ≠ 2; decide
        refine V.dup hc2 dL_curves_59 nq ?_
        refine V.iconst hc2 dL_curves_60 ?_
        refine V.bipush hc2 dL_curves_61 (by decide) ?_
        refine V.last (ln := 3) hc2 ex hi hl2 (by decide) dL_curves_63 (fun h2 e2 => ?_)
        rw [kd_n] at e2
        refine V.dup hc2 dL_curves_64 nq ?_
        refine V.iconst hc2 dL_curves_65 ?_
        refine V.iconst hc2 dL_curves_66 ?_
        refine V.last (ln := 3) hc2 ex hi hl2 (by decide) dL_curves_67 (fun h3 e3 => ?_)
        rw [kd_n] at e3
        refine V.dup hc2 dL_curves_68 nq ?_
        refine V.iconst hc2 dL_curves_69 ?_
        refine V.bipush hc2 dL_curves_70 (by decide) ?_
        refine V.last (ln := 3) hc2 ex hi hl2 (by decide) dL_curves_72 (fun h4 e4' => ?_)
        rw [kd_n] at e4'
        refine V.goto hc2 (tgt := 83) dL_curves_73 (by decide) ?_
        have v0 : h4 (200 + (20 + 3 * c' + 1)) 0 0 = 10 := by rw [e4', up_j (by decide), e3, up_j (by decide), e2, up_eq]
        have v1 : h4 (200 + (20 + 3 * c' + 1)) 0 1 = 0 := by rw [e4', up_j (by decide), e3, up_eq]
        have v2 : h4 (200 + (20 + 3 * c' + 1)) 0 2 = 10 := by rw [e4', up_eq]
        have wv : wq (h4 (200 + (20 + 3 * c' + 1)) 0 0, h4 (200 + (20 + 3 * c' + 1)) 0 1, h4 (200 + (20 + 3 * c' + 1)) 0 2) := by
          rw [v0, v1, v2]
          unfold wq wellC
          decide
        obtain ⟨q', f1, f2⟩ := q.set (k := 1) hN1.2 hcN (by decide) nw wv (fun i hi2 => by rw [e4', up_k hi2, e3, up_k hi2, e2, up_k hi2, upr_far hi2]) (fun z => absurd z (by decide))
        refine V.rowst (c0 := c') (k := 1) hc2 nw.2.1 (hm.eg (q.1.tr nw.1)) (by rw [e14]; exact hN1.2) (by rw [e14]; exact hcN) (by decide) ?_ ?_ (by omega) rfl rfl ((liv q).eg nw.1) (LiveS.nil _) dL_curves_83 (fun eg2 sg2 hc3 => ?_)
        · rw [nw.2.2.2.2 (410 + c') (by omega) (by omega) (by omega)]; exact q.2.2.1.2.2 c' hcN
        · rw [show 420 + 3 * c' + 1 = 400 + (20 + 3 * c' + 1) by omega]; exact nw.2.2.1
        · refine at84 _ h4 q' hc3 (fun j k hj hk h3' => ?_) ?_ ?_ (fun j hj => ?_)
          · rw [f2 j k hk h3' (Or.inl (by omega))]; exact un j k (by omega) hk h3'
          · rw [f2 c' 0 (by decide) (by omega) (Or.inr (by decide))]; exact un c' 0 (Nat.le_refl _) (by decide) (by omega)
          · rw [f2 c' 2 (by decide) (by omega) (Or.inr (by decide))]; exact un c' 2 (Nat.le_refl _) (by decide) (by omega)
          · by_cases z : j = c'
            · subst z; exact f1
            · rw [f2 j 1 (by decide) (by omega) (Or.inl z)]; exact pd j (by omega)
  refine V.astoreC_n hc' (q0.e5 hN1.2).rf dL_curves_7 rfl rfl (lo' := [(3, 0), (0, 1), (3, 4), (3, 5), (1, 0), (1, 0), (1, 0)]) rfl ?_
  refine V.iconst hc' dL_curves_8 ?_
  refine V.istore hc' dL_curves_9 rfl (lo' := [(3, 0), (0, 1), (3, 4), (3, 5), (0, 0), (1, 0), (1, 0)]) rfl ?_
  exact loop N 0 (setM G a N) h (by omega) q0 hc' (fun j k _ hk h3 => by
    rcases q0.2.2.2.1 j k hk h3 with z | z
    · have w1 := z.1
      rw [setM_o (by omega) (by omega) (by omega) (by omega), show 420 + 3 * j + k = 400 + (20 + 3 * j + k) by omega, hz _ (by omega) (by omega)] at w1
      cases w1
    · exact z.1) (fun j hj => absurd hj (Nat.not_lt_zero j))
