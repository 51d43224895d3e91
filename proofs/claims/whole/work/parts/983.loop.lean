/-! the law's loop -/
theorem IV.wide {h : HP} {K K' : Int} (iv : IV h K) (hK : K ≤ K') : IV h K' := by
  obtain ⟨π, s, im, t, w, r⟩ := iv
  exact ⟨π, s, im, t, ⟨w.1, w.2.1.mono hK, w.2.2.1, fun e => (w.2.2.2.1 e).mono hK, w.2.2.2.2⟩, r⟩
theorem law_sw {G : GG} {p : Program} {l : Launch} {e : Jvm.Env} {s : State} {m : MethodId} {args : Array Value} {below : List Frame} {meth : Method} {c : Code} {Q : State → Prop} {i K : Int} {h : HP} {n : Nat} (hlf : l.stackTraces = false) (hc : VL G p s m args meth c) (hi : 0 ≤ i) (hL : i + 5 < (G.2.2.1 11 : Nat)) (hn : n + 4 ≤ 90000 + 4 * 520) (hK : 0 ≤ K) (iv : IV h K) (kk : ∀ h' n', IV h' (K + 1) → n' ≤ n + 4 → V G p l e room_1 s m args below meth c Q 7 2109 [(3, 0), (21, 0), (22, 7), (87, 8), (0, i), (1, 0), (1, 0)] [] h' n') (x : Int) (hx : inR x) : V G p l e room_1 s m args below meth c Q 7 40 [(3, 0), (21, 0), (22, 7), (87, 8), (0, i), (1, 0), (1, 0)] [(0, x)] h n := by
  by_cases q0 : x = 0
  · exact V.tswIn hc (off := 156) (tgt := 196) 0 q0 ⟨by decide, by decide⟩ (by decide) (by decide) dL_law_40 rfl (by decide) (cs_0 hlf hc hi hL hn hK iv kk)
  by_cases q1 : x = 1
  · exact V.tswIn hc (off := 229) (tgt := 269) 1 q1 ⟨by decide, by decide⟩ (by decide) (by decide) dL_law_40 rfl (by decide) (cs_1 hlf hc hi hL hn hK iv kk)
  by_cases q2 : x = 2
  · exact V.tswIn hc (off := 285) (tgt := 325) 2 q2 ⟨by decide, by decide⟩ (by decide) (by decide) dL_law_40 rfl (by decide) (cs_2 hlf hc hi hL hn hK iv kk)
  by_cases q3 : x = 3
  · exact V.tswIn hc (off := 298) (tgt := 338) 3 q3 ⟨by decide, by decide⟩ (by decide) (by decide) dL_law_40 rfl (by decide) (cs_3 hlf hc hi hL hn hK iv kk)
  by_cases q4 : x = 4
  · exact V.tswIn hc (off := 354) (tgt := 394) 4 q4 ⟨by decide, by decide⟩ (by decide) (by decide) dL_law_40 rfl (by decide) (cs_4 hlf hc hi hL hn hK iv kk)
  by_cases q5 : x = 5
  · exact V.tswIn hc (off := 422) (tgt := 462) 5 q5 ⟨by decide, by decide⟩ (by decide) (by decide) dL_law_40 rfl (by decide) (cs_5 hlf hc hi hL hn hK iv kk)
  by_cases q6 : x = 6
  · exact V.tswIn hc (off := 502) (tgt := 542) 6 q6 ⟨by decide, by decide⟩ (by decide) (by decide) dL_law_40 rfl (by decide) (cs_6 hlf hc hi hL hn hK iv kk)
  by_cases q7 : x = 7
  · exact V.tswIn hc (off := 570) (tgt := 610) 7 q7 ⟨by decide, by decide⟩ (by decide) (by decide) dL_law_40 rfl (by decide) (cs_7 hlf hc hi hL hn hK iv kk)
  by_cases q8 : x = 8
  · exact V.tswIn hc (off := 638) (tgt := 678) 8 q8 ⟨by decide, by decide⟩ (by decide) (by decide) dL_law_40 rfl (by decide) (cs_8 hlf hc hi hL hn hK iv kk)
  by_cases q9 : x = 9
  · exact V.tswIn hc (off := 675) (tgt := 715) 9 q9 ⟨by decide, by decide⟩ (by decide) (by decide) dL_law_40 rfl (by decide) (cs_9 hlf hc hi hL hn hK iv kk)
  by_cases q10 : x = 10
  · exact V.tswIn hc (off := 700) (tgt := 740) 10 q10 ⟨by decide, by decide⟩ (by decide) (by decide) dL_law_40 rfl (by decide) (cs_10 hlf hc hi hL hn hK iv kk)
  by_cases q11 : x = 11
  · exact V.tswIn hc (off := 773) (tgt := 813) 11 q11 ⟨by decide, by decide⟩ (by decide) (by decide) dL_law_40 rfl (by decide) (cs_11 hlf hc hi hL hn hK iv kk)
  by_cases q12 : x = 12
  · exact V.tswIn hc (off := 798) (tgt := 838) 12 q12 ⟨by decide, by decide⟩ (by decide) (by decide) dL_law_40 rfl (by decide) (cs_12 hlf hc hi hL hn hK iv kk)
  by_cases q13 : x = 13
  · exact V.tswIn hc (off := 835) (tgt := 875) 13 q13 ⟨by decide, by decide⟩ (by decide) (by decide) dL_law_40 rfl (by decide) (cs_13 hlf hc hi hL hn hK iv kk)
  by_cases q14 : x = 14
  · exact V.tswIn hc (off := 860) (tgt := 900) 14 q14 ⟨by decide, by decide⟩ (by decide) (by decide) dL_law_40 rfl (by decide) (cs_14 hlf hc hi hL hn hK iv kk)
  by_cases q15 : x = 15
  · exact V.tswIn hc (off := 873) (tgt := 913) 15 q15 ⟨by decide, by decide⟩ (by decide) (by decide) dL_law_40 rfl (by decide) (cs_15 hlf hc hi hL hn hK iv kk)
  by_cases q16 : x = 16
  · exact V.tswIn hc (off := 929) (tgt := 969) 16 q16 ⟨by decide, by decide⟩ (by decide) (by decide) dL_law_40 rfl (by decide) (cs_16 hlf hc hi hL hn hK iv kk)
  by_cases q17 : x = 17
  · exact V.tswIn hc (off := 997) (tgt := 1037) 17 q17 ⟨by decide, by decide⟩ (by decide) (by decide) dL_law_40 rfl (by decide) (cs_17 hlf hc hi hL hn hK iv kk)
  by_cases q18 : x = 18
  · exact V.tswIn hc (off := 1065) (tgt := 1105) 18 q18 ⟨by decide, by decide⟩ (by decide) (by decide) dL_law_40 rfl (by decide) (cs_18 hlf hc hi hL hn hK iv kk)
  by_cases q19 : x = 19
  · exact V.tswIn hc (off := 1145) (tgt := 1185) 19 q19 ⟨by decide, by decide⟩ (by decide) (by decide) dL_law_40 rfl (by decide) (cs_19 hlf hc hi hL hn hK iv kk)
  by_cases q20 : x = 20
  · exact V.tswIn hc (off := 1213) (tgt := 1253) 20 q20 ⟨by decide, by decide⟩ (by decide) (by decide) dL_law_40 rfl (by decide) (cs_20 hlf hc hi hL hn hK iv kk)
  by_cases q21 : x = 21
  · exact V.tswIn hc (off := 1269) (tgt := 1309) 21 q21 ⟨by decide, by decide⟩ (by decide) (by decide) dL_law_40 rfl (by decide) (cs_21 hlf hc hi hL hn hK iv kk)
  by_cases q22 : x = 22
  · exact V.tswIn hc (off := 1337) (tgt := 1377) 22 q22 ⟨by decide, by decide⟩ (by decide) (by decide) dL_law_40 rfl (by decide) (cs_22 hlf hc hi hL hn hK iv kk)
  by_cases q23 : x = 23
  · exact V.tswIn hc (off := 1417) (tgt := 1457) 23 q23 ⟨by decide, by decide⟩ (by decide) (by decide) dL_law_40 rfl (by decide) (cs_23 hlf hc hi hL hn hK iv kk)
  by_cases q24 : x = 24
  · exact V.tswIn hc (off := 1497) (tgt := 1537) 24 q24 ⟨by decide, by decide⟩ (by decide) (by decide) dL_law_40 rfl (by decide) (cs_24 hlf hc hi hL hn hK iv kk)
  by_cases q25 : x = 25
  · exact V.tswIn hc (off := 1565) (tgt := 1605) 25 q25 ⟨by decide, by decide⟩ (by decide) (by decide) dL_law_40 rfl (by decide) (cs_25 hlf hc hi hL hn hK iv kk)
  by_cases q26 : x = 26
  · exact V.tswIn hc (off := 1633) (tgt := 1673) 26 q26 ⟨by decide, by decide⟩ (by decide) (by decide) dL_law_40 rfl (by decide) (cs_26 hlf hc hi hL hn hK iv kk)
  by_cases q27 : x = 27
  · exact V.tswIn hc (off := 1682) (tgt := 1722) 27 q27 ⟨by decide, by decide⟩ (by decide) (by decide) dL_law_40 rfl (by decide) (cs_27 hlf hc hi hL hn hK iv kk)
  by_cases q28 : x = 28
  · exact V.tswIn hc (off := 1738) (tgt := 1778) 28 q28 ⟨by decide, by decide⟩ (by decide) (by decide) dL_law_40 rfl (by decide) (cs_28 hlf hc hi hL hn hK iv kk)
  by_cases q29 : x = 29
  · exact V.tswIn hc (off := 1794) (tgt := 1834) 29 q29 ⟨by decide, by decide⟩ (by decide) (by decide) dL_law_40 rfl (by decide) (cs_29 hlf hc hi hL hn hK iv kk)
  by_cases q30 : x = 30
  · exact V.tswIn hc (off := 1805) (tgt := 1845) 30 q30 ⟨by decide, by decide⟩ (by decide) (by decide) dL_law_40 rfl (by decide) (cs_30 hlf hc hi hL hn hK iv kk)
  by_cases q31 : x = 31
  · exact V.tswIn hc (off := 1897) (tgt := 1937) 31 q31 ⟨by decide, by decide⟩ (by decide) (by decide) dL_law_40 rfl (by decide) (cs_31 hlf hc hi hL hn hK iv kk)
  by_cases q32 : x = 32
  · exact V.tswIn hc (off := 1977) (tgt := 2017) 32 q32 ⟨by decide, by decide⟩ (by decide) (by decide) dL_law_40 rfl (by decide) (cs_32 hlf hc hi hL hn hK iv kk)
  by_cases q33 : x = 33
  · exact V.tswIn hc (off := 2045) (tgt := 2085) 33 q33 ⟨by decide, by decide⟩ (by decide) (by decide) dL_law_40 rfl (by decide) (cs_33 hlf hc hi hL hn hK iv kk)
  by_cases q34 : x = 34
  · exact V.tswIn hc (off := 2056) (tgt := 2096) 34 q34 ⟨by decide, by decide⟩ (by decide) (by decide) dL_law_40 rfl (by decide) (cs_34 hlf hc hi hL hn hK iv kk)
  exact V.tswOut hc (tgt := 2109) hx dL_law_40 (by omega) (by decide) (kk h n (IV.wide iv (by omega)) (by omega))
theorem law_loop {G : GG} {p : Program} {l : Launch} {e : Jvm.Env} {s : State} {m : MethodId} {args : Array Value} {below : List Frame} {meth : Method} {c : Code} {Q : State → Prop} (hlf : l.stackTraces = false) (hc : VL G p s m args meth c) (fin : ∀ (i : Int) (h' : HP) (n' : Nat), n' ≤ 92080 → V G p l e room_1 s m args below meth c Q 7 2115 [(3, 0), (21, 0), (22, 7), (87, 8), (0, i), (1, 0), (1, 0)] [] h' n') : ∀ (r j : Nat) (h : HP) (n : Nat), j + r = 513 → IV h (j : Int) → n ≤ 90000 + 4 * j → V G p l e room_1 s m args below meth c Q 7 23 [(3, 0), (21, 0), (22, 7), (87, 8), (0, 6 * (j : Int)), (1, 0), (1, 0)] [] h n := by
  have hL7 : G.2.2.1 11 ≤ 3072 := hc.2.2.2.2.2.1.2.2.2.2.2.1
  intro r
  induction r with
  | zero =>
    intro j h n hr iv hn
    refine V.iload hc dL_law_23 rfl ?_
    refine V.aloadC_n hc dL_law_25 rfl rfl ?_
    refine V.slen hc dL_law_26 ?_
    refine V.bipush hc dL_law_27 rfl ?_
    refine V.isub hc dL_law_29 ?_
    exact V.icmp_gt hc (tgt := 2115) dL_law_30 (by decide) (by unfold inR; omega) (by unfold inR; omega) (fun _ => fin _ h n (by omega)) (fun z => absurd (by omega) z)
  | succ r ih =>
    intro j h n hr iv hn
    refine V.iload hc dL_law_23 rfl ?_
    refine V.aloadC_n hc dL_law_25 rfl rfl ?_
    refine V.slen hc dL_law_26 ?_
    refine V.bipush hc dL_law_27 rfl ?_
    refine V.isub hc dL_law_29 ?_
    refine V.icmp_gt hc (tgt := 2115) dL_law_30 (by decide) (by unfold inR; omega) (by unfold inR; omega) (fun _ => fin _ h n (by omega)) (fun z => ?_)
    refine V.aloadC_n hc dL_law_33 rfl rfl ?_
    refine V.iload hc dL_law_34 rfl ?_
    refine V.sld hc (by omega) dL_law_36 ?_
    refine V.bipush hc dL_law_37 rfl ?_
    refine V.iand hc dL_law_39 ?_
    refine law_sw (K := (j : Int)) hlf hc (by omega) (by omega) (by omega) (by omega) iv (fun h' n' iv' hn' => ?_) _ ⟨Int32.le_toInt _, Int32.toInt_lt _⟩
    refine V.iinc hc dL_law_2109 rfl rfl rfl ?_
    refine V.goto hc (tgt := 23) dL_law_2112 (by decide) ?_
    have k9 := ih (j + 1) h' n' (by omega) (by rw [show (((j + 1 : Nat)) : Int) = (j : Int) + 1 by omega]; exact iv') (by omega)
    rw [show 6 * (((j + 1 : Nat)) : Int) = 6 * (j : Int) + 6 by omega] at k9
    exact k9
