theorem qX11_toGrant (G : GG) (l : Launch) (hlf : l.stackTraces = false) (o : Int) (a1 : Int) (a2 : Int) (h : HP) (P : Int → HP → Prop) (X : Nat → HP → Prop) (hw : wX11_toGrant o a1 a2 h P X) : CxI l G yX11_toGrant cX11_toGrant 3 (some .int) 12 1 [(21, o), (0, a1), (0, a2)] h P X := by
  refine CxI.of (lo := [(21, o), (0, a1), (0, a2)]) (by decide) rfl rfl rfl ?_
  intro p e s m args below meth c hc hr hxt
  have hc : VC G p (rmD 12 1) s m args meth c RX11 cX11_toGrant 3 12 := hc
  refine V.iconst hc dX11_toGrant_0 ?_
  refine V.iload_n hc dX11_toGrant_1 rfl rfl ?_
  refine V.iload_n hc dX11_toGrant_2 rfl rfl ?_
  refine V.callSI hc (qX1_isWell G l _ _ _ _ _ hw) mo_X1_isWell ml_X11_281 (as := [(0, 0), (0, a1), (0, a2)]) rfl rfl rfl rfl rfl ⟨by show _ ≤ 1; omega, by show _ ≤ 6 * 1; omega⟩ dX11_toGrant_3 (fun x2 h1 hw => ?_)
  obtain ⟨g3, hw⟩ := hw
  refine V.if_ne hc (tgt := 17) dX11_toGrant_6 (by decide) g3 (fun c4 => ?_) (fun c4 => ?_)
  · replace hw := hw.1 c4
    refine V.aload_n (t := 11) hc dX11_toGrant_17 rfl rfl ?_
    refine V.gR hc gR_X11_89 (i' := 0) rfl dX11_toGrant_18 ?_
    refine V.iload_n hc dX11_toGrant_21 rfl rfl ?_
    refine V.iload_n hc dX11_toGrant_22 rfl rfl ?_
    refine V.callVI hc (qX3_greatestMore G l _ _ _ _ _ hw) mo_X3_greatestMore ml_X11_317 (by rfl) rfl rfl (as := [(0, a1), (0, a2)]) rfl rfl rfl rfl rfl ⟨by show _ ≤ 1; omega, by show _ ≤ 6 * 1; omega⟩ dX11_toGrant_23 (fun x6 h5 hw => ?_)
    exact V.xiret hc hr dX11_toGrant_26 rfl hw
  · replace hw := hw.2 c4
    exact V.throwI hc hlf hxt rfl rfl rfl dX11_toGrant_9 dX11_toGrant_12 dX11_toGrant_13 dX11_toGrant_16 hw
theorem qX11_needRange (G : GG) (l : Launch) (hlf : l.stackTraces = false) (a0 : Int) (a1 : Int) (a2 : Int) (h : HP) (P : HP → Prop) (X : Nat → HP → Prop) (hw : wX11_needRange a0 a1 a2 h P X) : CxV l G yX11_needRange cX11_needRange 3 8 1 [(0, a0), (0, a1), (0, a2)] h P X := by
  refine CxV.of (lo := [(0, a0), (0, a1), (0, a2)]) (by decide) rfl rfl rfl ?_
  intro p e s m args below meth c hc hr hxt
  have hc : VC G p (rmD 8 1) s m args meth c RX11 cX11_needRange 3 8 := hc
  refine V.iload_n hc dX11_needRange_0 rfl rfl ?_
  refine V.iload_n hc dX11_needRange_1 rfl rfl ?_
  obtain ⟨g1, hw⟩ := hw
  obtain ⟨g2, hw⟩ := hw
  refine V.icmp_lt hc (tgt := 10) dX11_needRange_2 (by decide) g1 g2 (fun c3 => ?_) (fun c3 => ?_)
  · replace hw := hw.1 c3
    exact V.throwI hc hlf hxt rfl rfl rfl dX11_needRange_10 dX11_needRange_13 dX11_needRange_14 dX11_needRange_17 hw
  · replace hw := hw.2 c3
    refine V.iload_n hc dX11_needRange_5 rfl rfl ?_
    refine V.iload_n hc dX11_needRange_6 rfl rfl ?_
    obtain ⟨g4, hw⟩ := hw
    obtain ⟨g5, hw⟩ := hw
    refine V.icmp_le hc (tgt := 18) dX11_needRange_7 (by decide) g4 g5 (fun c6 => ?_) (fun c6 => ?_)
    · replace hw := hw.1 c6
      exact V.xvret hc hr dX11_needRange_18 rfl hw
    · replace hw := hw.2 c6
      exact V.throwI hc hlf hxt rfl rfl rfl dX11_needRange_10 dX11_needRange_13 dX11_needRange_14 dX11_needRange_17 hw
theorem qX11_bound (G : GG) (l : Launch) (hlf : l.stackTraces = false) (o : Int) (a1 : Int) (a2 : Int) (h : HP) (P : Int → HP → Prop) (X : Nat → HP → Prop) (hw : wX11_bound o a1 a2 h P X) : CxI l G yX11_bound cX11_bound 3 (some .int) 10 3 [(21, o), (0, a1), (0, a2)] h P X := by
  refine CxI.of (lo := [(21, o), (0, a1), (0, a2)]) (by decide) rfl rfl rfl ?_
  intro p e s m args below meth c hc hr hxt
  have hc : VC G p (rmD 10 3) s m args meth c RX11 cX11_bound 3 10 := hc
  refine V.aload_n (t := 11) hc dX11_bound_0 rfl rfl ?_
  refine V.iload_n hc dX11_bound_1 rfl rfl ?_
  refine V.callVVx hc hxt rfl (qX11_needClass G l hlf _ _ _ _ _ hw) mo_X11_needClass ml_X11_195 (by rfl) rfl rfl (as := [(0, a1)]) rfl rfl rfl rfl rfl rfl dX11_bound_2 (fun h1 hw => ?_)
  refine V.aload_n (t := 11) hc dX11_bound_5 rfl rfl ?_
  refine V.gR hc gR_X11_47 (i' := 10) rfl dX11_bound_6 ?_
  refine V.iload_n hc dX11_bound_9 rfl rfl ?_
  refine V.iconst hc dX11_bound_10 ?_
  refine V.callVI hc (qX6_hasCurve G l _ _ _ _ _ hw) mo_X6_hasCurve ml_X11_229 (by rfl) rfl rfl (as := [(0, a1), (0, 0)]) rfl rfl rfl rfl rfl ⟨by show _ ≤ 3; omega, by show _ ≤ 6 * 3; omega⟩ dX11_bound_11 (fun x3 h2 hw => ?_)
  obtain ⟨g4, hw⟩ := hw
  refine V.if_ne hc (tgt := 25) dX11_bound_14 (by decide) g4 (fun c5 => ?_) (fun c5 => ?_)
  · replace hw := hw.1 c5
    refine V.iload_n hc dX11_bound_25 rfl rfl ?_
    refine V.iconst hc dX11_bound_26 ?_
    refine V.sipush hc dX11_bound_27 (by decide) ?_
    refine V.callSVx hc hxt rfl (qX11_needRange G l hlf _ _ _ _ _ _ hw) mo_X11_needRange ml_X11_320 (as := [(0, a2), (0, 1), (0, 999)]) rfl rfl rfl rfl rfl rfl dX11_bound_30 (fun h6 hw => ?_)
    refine V.aload_n (t := 11) hc dX11_bound_33 rfl rfl ?_
    refine V.gR hc gR_X11_47 (i' := 10) rfl dX11_bound_34 ?_
    refine V.gR hc gR_X11_233 (i' := 10) rfl dX11_bound_37 ?_
    refine V.iload_n hc dX11_bound_40 rfl rfl ?_
    refine V.iconst hc dX11_bound_41 ?_
    refine V.imul hc dX11_bound_42 ?_
    refine V.iconst hc dX11_bound_43 ?_
    refine V.iadd hc dX11_bound_44 ?_
    refine V.iload_n hc dX11_bound_45 rfl rfl ?_
    refine V.callVI hc (qX1_reachFromZero G l _ _ _ _ _ hw) mo_X1_reachFromZero ml_X11_324 (by rfl) rfl rfl (as := [(0, (a1 * 3) + 0), (0, a2)]) rfl rfl rfl rfl rfl ⟨by show _ ≤ 3; omega, by show _ ≤ 6 * 3; omega⟩ dX11_bound_46 (fun x8 h7 hw => ?_)
    refine V.bipush hc dX11_bound_49 (by decide) ?_
    refine V.iadd hc dX11_bound_51 ?_
    exact V.xiret hc hr dX11_bound_52 rfl hw
  · replace hw := hw.2 c5
    exact V.throwN hc hlf hxt rfl rfl rfl dX11_bound_17 dX11_bound_20 dX11_bound_21 dX11_bound_24 hw
theorem qX11_then (G : GG) (l : Launch) (hlf : l.stackTraces = false) (o : Int) (a1 : Int) (a2 : Int) (a3 : Int) (h : HP) (P : Int → HP → Prop) (X : Nat → HP → Prop) (hw : wX11_then o a1 a2 a3 h P X) : CxI l G yX11_then cX11_then 4 (some .int) 14 3 [(21, o), (0, a1), (0, a2), (0, a3)] h P X := by
  refine CxI.of (lo := [(21, o), (0, a1), (0, a2), (0, a3)]) (by decide) rfl rfl rfl ?_
  intro p e s m args below meth c hc hr hxt
  have hc : VC G p (rmD 14 3) s m args meth c RX11 cX11_then 4 14 := hc
  refine V.aload_n (t := 11) hc dX11_then_0 rfl rfl ?_
  refine V.iload_n hc dX11_then_1 rfl rfl ?_
  refine V.callVVx hc hxt rfl (qX11_needClass G l hlf _ _ _ _ _ hw) mo_X11_needClass ml_X11_195 (by rfl) rfl rfl (as := [(0, a1)]) rfl rfl rfl rfl rfl rfl dX11_then_2 (fun h1 hw => ?_)
  refine V.iload_n hc dX11_then_5 rfl rfl ?_
  obtain ⟨g2, hw⟩ := hw
  refine V.if_lt hc (tgt := 14) dX11_then_6 (by decide) g2 (fun c3 => ?_) (fun c3 => ?_)
  · replace hw := hw.1 c3
    exact V.throwN hc hlf hxt rfl rfl rfl dX11_then_14 dX11_then_17 dX11_then_18 dX11_then_21 hw
  · replace hw := hw.2 c3
    refine V.iload_n hc dX11_then_9 rfl rfl ?_
    refine V.iconst hc dX11_then_10 ?_
    obtain ⟨g4, hw⟩ := hw
    refine V.icmp_le hc (tgt := 22) dX11_then_11 (by decide) g4 (by omega) (fun c5 => ?_) (fun c5 => ?_)
    · replace hw := hw.1 c5
      refine V.iload_n hc dX11_then_22 rfl rfl ?_
      refine V.iconst hc dX11_then_23 ?_
      refine V.sipush hc dX11_then_24 (by decide) ?_
      refine V.callSVx hc hxt rfl (qX11_needRange G l hlf _ _ _ _ _ _ hw) mo_X11_needRange ml_X11_320 (as := [(0, a2), (0, 0), (0, 400)]) rfl rfl rfl rfl rfl rfl dX11_then_27 (fun h6 hw => ?_)
      refine V.aload_n (t := 11) hc dX11_then_30 rfl rfl ?_
      refine V.gR hc gR_X11_98 (i' := 0) rfl dX11_then_31 ?_
      refine V.iload_n hc dX11_then_34 rfl rfl ?_
      refine V.iload_n hc dX11_then_35 rfl rfl ?_
      refine V.iload_n hc dX11_then_36 rfl rfl ?_
      refine V.callVI hc (qX2_behind G l _ _ _ _ _ _ hw) mo_X2_behind ml_X11_327 (by rfl) rfl rfl (as := [(0, a1), (0, a2), (0, a3)]) rfl rfl rfl rfl rfl ⟨by show _ ≤ 3; omega, by show _ ≤ 6 * 3; omega⟩ dX11_then_37 (fun x8 h7 hw => ?_)
      exact V.xiret hc hr dX11_then_40 rfl hw
    · replace hw := hw.2 c5
      exact V.throwN hc hlf hxt rfl rfl rfl dX11_then_14 dX11_then_17 dX11_then_18 dX11_then_21 hw
theorem qX11_next (G : GG) (l : Launch) (hlf : l.stackTraces = false) (o : Int) (a1 : Int) (a2 : Int) (h : HP) (P : Int → HP → Prop) (X : Nat → HP → Prop) (hw : wX11_next o a1 a2 h P X) : CxI l G yX11_next cX11_next 3 (some .int) 13 2 [(21, o), (0, a1), (0, a2)] h P X := by
  refine CxI.of (lo := [(21, o), (0, a1), (0, a2)]) (by decide) rfl rfl rfl ?_
  intro p e s m args below meth c hc hr hxt
  have hc : VC G p (rmD 13 2) s m args meth c RX11 cX11_next 3 13 := hc
  refine V.iload_n hc dX11_next_0 rfl rfl ?_
  obtain ⟨g1, hw⟩ := hw
  refine V.if_lt hc (tgt := 9) dX11_next_1 (by decide) g1 (fun c2 => ?_) (fun c2 => ?_)
  · replace hw := hw.1 c2
    exact V.throwN hc hlf hxt rfl rfl rfl dX11_next_9 dX11_next_12 dX11_next_13 dX11_next_16 hw
  · replace hw := hw.2 c2
    refine V.iload_n hc dX11_next_4 rfl rfl ?_
    refine V.iconst hc dX11_next_5 ?_
    obtain ⟨g3, hw⟩ := hw
    refine V.icmp_le hc (tgt := 17) dX11_next_6 (by decide) g3 (by omega) (fun c4 => ?_) (fun c4 => ?_)
    · replace hw := hw.1 c4
      refine V.iload_n hc dX11_next_17 rfl rfl ?_
      refine V.iconst hc dX11_next_18 ?_
      refine V.bipush hc dX11_next_19 (by decide) ?_
      refine V.callSVx hc hxt rfl (qX11_needRange G l hlf _ _ _ _ _ _ hw) mo_X11_needRange ml_X11_320 (as := [(0, a1), (0, 1), (0, 20)]) rfl rfl rfl rfl rfl rfl dX11_next_21 (fun h5 hw => ?_)
      refine V.aload_n (t := 11) hc dX11_next_24 rfl rfl ?_
      refine V.gR hc gR_X11_98 (i' := 0) rfl dX11_next_25 ?_
      refine V.iload_n hc dX11_next_28 rfl rfl ?_
      refine V.iload_n hc dX11_next_29 rfl rfl ?_
      refine V.callVI hc (qX2_chosenAt G l _ _ _ _ _ hw) mo_X2_chosenAt ml_X11_331 (by rfl) rfl rfl (as := [(0, a1), (0, a2)]) rfl rfl rfl rfl rfl ⟨by show _ ≤ 2; omega, by show _ ≤ 6 * 2; omega⟩ dX11_next_30 (fun x7 h6 hw => ?_)
      exact V.xiret hc hr dX11_next_33 rfl hw
    · replace hw := hw.2 c4
      exact V.throwN hc hlf hxt rfl rfl rfl dX11_next_9 dX11_next_12 dX11_next_13 dX11_next_16 hw
theorem qX11_needQueue (G : GG) (l : Launch) (hlf : l.stackTraces = false) (o : Int) (a1 : Int) (h : HP) (P : HP → Prop) (X : Nat → HP → Prop) (hw : wX11_needQueue o a1 h P X) : CxV l G yX11_needQueue cX11_needQueue 2 10 1 [(21, o), (0, a1)] h P X := by
  refine CxV.of (lo := [(21, o), (0, a1)]) (by decide) rfl rfl rfl ?_
  intro p e s m args below meth c hc hr hxt
  have hc : VC G p (rmD 10 1) s m args meth c RX11 cX11_needQueue 2 10 := hc
  refine V.aload_n (t := 11) hc dX11_needQueue_0 rfl rfl ?_
  refine V.gR hc gR_X11_26 (i' := 1) rfl dX11_needQueue_1 ?_
  refine V.iload_n hc dX11_needQueue_4 rfl rfl ?_
  refine V.callVI hc (qX8_hasLeaf G l _ _ _ _ hw) mo_X8_hasLeaf ml_X11_261 (by rfl) rfl rfl (as := [(0, a1)]) rfl rfl rfl rfl rfl ⟨by show _ ≤ 1; omega, by show _ ≤ 6 * 1; omega⟩ dX11_needQueue_5 (fun x2 h1 hw => ?_)
  obtain ⟨g3, hw⟩ := hw
  refine V.if_eq hc (tgt := 22) dX11_needQueue_8 (by decide) g3 (fun c4 => ?_) (fun c4 => ?_)
  · replace hw := hw.1 c4
    exact V.throwN hc hlf hxt rfl rfl rfl dX11_needQueue_22 dX11_needQueue_25 dX11_needQueue_26 dX11_needQueue_29 hw
  · replace hw := hw.2 c4
    refine V.aload_n (t := 11) hc dX11_needQueue_11 rfl rfl ?_
    refine V.gR hc gR_X11_47 (i' := 10) rfl dX11_needQueue_12 ?_
    refine V.iload_n hc dX11_needQueue_15 rfl rfl ?_
    refine V.callVI hc (qX6_isActive G l _ _ _ _ hw) mo_X6_isActive ml_X11_205 (by rfl) rfl rfl (as := [(0, a1)]) rfl rfl rfl rfl rfl ⟨by show _ ≤ 1; omega, by show _ ≤ 6 * 1; omega⟩ dX11_needQueue_16 (fun x6 h5 hw => ?_)
    obtain ⟨g7, hw⟩ := hw
    refine V.if_ne hc (tgt := 30) dX11_needQueue_19 (by decide) g7 (fun c8 => ?_) (fun c8 => ?_)
    · replace hw := hw.1 c8
      exact V.xvret hc hr dX11_needQueue_30 rfl hw
    · replace hw := hw.2 c8
      exact V.throwN hc hlf hxt rfl rfl rfl dX11_needQueue_22 dX11_needQueue_25 dX11_needQueue_26 dX11_needQueue_29 hw
theorem qX11_waits (G : GG) (l : Launch) (hlf : l.stackTraces = false) (o : Int) (a1 : Int) (h : HP) (P : Int → HP → Prop) (X : Nat → HP → Prop) (hw : wX11_waits o a1 h P X) : CxI l G yX11_waits cX11_waits 2 (some .int) 14 1 [(21, o), (0, a1)] h P X := by
  refine CxI.of (lo := [(21, o), (0, a1)]) (by decide) rfl rfl rfl ?_
  intro p e s m args below meth c hc hr hxt
  have hc : VC G p (rmD 14 1) s m args meth c RX11 cX11_waits 2 14 := hc
  refine V.aload_n (t := 11) hc dX11_waits_0 rfl rfl ?_
  refine V.iload_n hc dX11_waits_1 rfl rfl ?_
  refine V.callVVx hc hxt rfl (qX11_needQueue G l hlf _ _ _ _ _ hw) mo_X11_needQueue ml_X11_334 (by rfl) rfl rfl (as := [(0, a1)]) rfl rfl rfl rfl rfl rfl dX11_waits_2 (fun h1 hw => ?_)
  refine V.aload_n (t := 11) hc dX11_waits_5 rfl rfl ?_
  refine V.gR hc gR_X11_98 (i' := 0) rfl dX11_waits_6 ?_
  refine V.iload_n hc dX11_waits_9 rfl rfl ?_
  refine V.callVI hc (qX2_waitOf G l _ _ _ _ hw) mo_X2_waitOf ml_X11_337 (by rfl) rfl rfl (as := [(0, a1)]) rfl rfl rfl rfl rfl ⟨by show _ ≤ 1; omega, by show _ ≤ 6 * 1; omega⟩ dX11_waits_10 (fun x3 h2 hw => ?_)
  exact V.xiret hc hr dX11_waits_13 rfl hw
theorem qX11_needLeaf (G : GG) (l : Launch) (hlf : l.stackTraces = false) (o : Int) (a1 : Int) (h : HP) (P : HP → Prop) (X : Nat → HP → Prop) (hw : wX11_needLeaf o a1 h P X) : CxV l G yX11_needLeaf cX11_needLeaf 2 10 1 [(21, o), (0, a1)] h P X := by
  refine CxV.of (lo := [(21, o), (0, a1)]) (by decide) rfl rfl rfl ?_
  intro p e s m args below meth c hc hr hxt
  have hc : VC G p (rmD 10 1) s m args meth c RX11 cX11_needLeaf 2 10 := hc
  refine V.aload_n (t := 11) hc dX11_needLeaf_0 rfl rfl ?_
  refine V.gR hc gR_X11_26 (i' := 1) rfl dX11_needLeaf_1 ?_
  refine V.iload_n hc dX11_needLeaf_4 rfl rfl ?_
  refine V.callVI hc (qX8_hasLeaf G l _ _ _ _ hw) mo_X8_hasLeaf ml_X11_261 (by rfl) rfl rfl (as := [(0, a1)]) rfl rfl rfl rfl rfl ⟨by show _ ≤ 1; omega, by show _ ≤ 6 * 1; omega⟩ dX11_needLeaf_5 (fun x2 h1 hw => ?_)
  obtain ⟨g3, hw⟩ := hw
  refine V.if_ne hc (tgt := 19) dX11_needLeaf_8 (by decide) g3 (fun c4 => ?_) (fun c4 => ?_)
  · replace hw := hw.1 c4
    exact V.xvret hc hr dX11_needLeaf_19 rfl hw
  · replace hw := hw.2 c4
    exact V.throwN hc hlf hxt rfl rfl rfl dX11_needLeaf_11 dX11_needLeaf_14 dX11_needLeaf_15 dX11_needLeaf_18 hw
theorem qX11_longest (G : GG) (l : Launch) (hlf : l.stackTraces = false) (o : Int) (a1 : Int) (a2 : Int) (h : HP) (P : Int → HP → Prop) (X : Nat → HP → Prop) (hw : wX11_longest o a1 a2 h P X) : CxI l G yX11_longest cX11_longest 3 (some .int) 13 2 [(21, o), (0, a1), (0, a2)] h P X := by
  refine CxI.of (lo := [(21, o), (0, a1), (0, a2)]) (by decide) rfl rfl rfl ?_
  intro p e s m args below meth c hc hr hxt
  have hc : VC G p (rmD 13 2) s m args meth c RX11 cX11_longest 3 13 := hc
  refine V.aload_n (t := 11) hc dX11_longest_0 rfl rfl ?_
  refine V.iload_n hc dX11_longest_1 rfl rfl ?_
  refine V.callVVx hc hxt rfl (qX11_needLeaf G l hlf _ _ _ _ _ hw) mo_X11_needLeaf ml_X11_340 (by rfl) rfl rfl (as := [(0, a1)]) rfl rfl rfl rfl rfl rfl dX11_longest_2 (fun h1 hw => ?_)
  refine V.iload_n hc dX11_longest_5 rfl rfl ?_
  refine V.iconst hc dX11_longest_6 ?_
  refine V.sipush hc dX11_longest_7 (by decide) ?_
  refine V.callSVx hc hxt rfl (qX11_needRange G l hlf _ _ _ _ _ _ hw) mo_X11_needRange ml_X11_320 (as := [(0, a2), (0, 1), (0, 200)]) rfl rfl rfl rfl rfl rfl dX11_longest_10 (fun h2 hw => ?_)
  refine V.aload_n (t := 11) hc dX11_longest_13 rfl rfl ?_
  refine V.gR hc gR_X11_98 (i' := 0) rfl dX11_longest_14 ?_
  refine V.iload_n hc dX11_longest_17 rfl rfl ?_
  refine V.iload_n hc dX11_longest_18 rfl rfl ?_
  refine V.callVI hc (qX2_longestWait G l _ _ _ _ _ hw) mo_X2_longestWait ml_X11_343 (by rfl) rfl rfl (as := [(0, a1), (0, a2)]) rfl rfl rfl rfl rfl ⟨by show _ ≤ 2; omega, by show _ ≤ 6 * 2; omega⟩ dX11_longest_19 (fun x4 h3 hw => ?_)
  exact V.xiret hc hr dX11_longest_22 rfl hw
theorem qX11_toShare (G : GG) (l : Launch) (hlf : l.stackTraces = false) (o : Int) (a1 : Int) (a2 : Int) (a3 : Int) (h : HP) (P : Int → HP → Prop) (X : Nat → HP → Prop) (hw : wX11_toShare o a1 a2 a3 h P X) : CxI l G yX11_toShare cX11_toShare 4 (some .int) 14 3 [(21, o), (0, a1), (0, a2), (0, a3)] h P X := by
  refine CxI.of (lo := [(21, o), (0, a1), (0, a2), (0, a3)]) (by decide) rfl rfl rfl ?_
  intro p e s m args below meth c hc hr hxt
  have hc : VC G p (rmD 14 3) s m args meth c RX11 cX11_toShare 4 14 := hc
  refine V.aload_n (t := 11) hc dX11_toShare_0 rfl rfl ?_
  refine V.iload_n hc dX11_toShare_1 rfl rfl ?_
  refine V.callVVx hc hxt rfl (qX11_needClass G l hlf _ _ _ _ _ hw) mo_X11_needClass ml_X11_195 (by rfl) rfl rfl (as := [(0, a1)]) rfl rfl rfl rfl rfl rfl dX11_toShare_2 (fun h1 hw => ?_)
  refine V.iload_n hc dX11_toShare_5 rfl rfl ?_
  refine V.iconst hc dX11_toShare_6 ?_
  refine V.sipush hc dX11_toShare_7 (by decide) ?_
  refine V.callSVx hc hxt rfl (qX11_needRange G l hlf _ _ _ _ _ _ hw) mo_X11_needRange ml_X11_320 (as := [(0, a2), (0, 1), (0, 999)]) rfl rfl rfl rfl rfl rfl dX11_toShare_10 (fun h2 hw => ?_)
  refine V.iload_n hc dX11_toShare_13 rfl rfl ?_
  refine V.iconst hc dX11_toShare_14 ?_
  refine V.sipush hc dX11_toShare_15 (by decide) ?_
  refine V.callSVx hc hxt rfl (qX11_needRange G l hlf _ _ _ _ _ _ hw) mo_X11_needRange ml_X11_320 (as := [(0, a3), (0, 1), (0, 200)]) rfl rfl rfl rfl rfl rfl dX11_toShare_18 (fun h3 hw => ?_)
  refine V.aload_n (t := 11) hc dX11_toShare_21 rfl rfl ?_
  refine V.gR hc gR_X11_98 (i' := 0) rfl dX11_toShare_22 ?_
  refine V.iload_n hc dX11_toShare_25 rfl rfl ?_
  refine V.iload_n hc dX11_toShare_26 rfl rfl ?_
  refine V.iload_n hc dX11_toShare_27 rfl rfl ?_
  refine V.callVI hc (qX2_leastShare G l _ _ _ _ _ _ hw) mo_X2_leastShare ml_X11_346 (by rfl) rfl rfl (as := [(0, a1), (0, a2), (0, a3)]) rfl rfl rfl rfl rfl ⟨by show _ ≤ 3; omega, by show _ ≤ 6 * 3; omega⟩ dX11_toShare_28 (fun x5 h4 hw => ?_)
  exact V.xiret hc hr dX11_toShare_31 rfl hw
theorem qX11_toCap (G : GG) (l : Launch) (hlf : l.stackTraces = false) (o : Int) (a1 : Int) (a2 : Int) (a3 : Int) (h : HP) (P : Int → HP → Prop) (X : Nat → HP → Prop) (hw : wX11_toCap o a1 a2 a3 h P X) : CxI l G yX11_toCap cX11_toCap 4 (some .int) 14 3 [(21, o), (0, a1), (0, a2), (0, a3)] h P X := by
  refine CxI.of (lo := [(21, o), (0, a1), (0, a2), (0, a3)]) (by decide) rfl rfl rfl ?_
  intro p e s m args below meth c hc hr hxt
  have hc : VC G p (rmD 14 3) s m args meth c RX11 cX11_toCap 4 14 := hc
  refine V.aload_n (t := 11) hc dX11_toCap_0 rfl rfl ?_
  refine V.iload_n hc dX11_toCap_1 rfl rfl ?_
  refine V.callVVx hc hxt rfl (qX11_needClass G l hlf _ _ _ _ _ hw) mo_X11_needClass ml_X11_195 (by rfl) rfl rfl (as := [(0, a1)]) rfl rfl rfl rfl rfl rfl dX11_toCap_2 (fun h1 hw => ?_)
  refine V.aload_n (t := 11) hc dX11_toCap_5 rfl rfl ?_
  refine V.iload_n hc dX11_toCap_6 rfl rfl ?_
  refine V.callVVx hc hxt rfl (qX11_needQueue G l hlf _ _ _ _ _ hw) mo_X11_needQueue ml_X11_334 (by rfl) rfl rfl (as := [(0, a2)]) rfl rfl rfl rfl rfl rfl dX11_toCap_7 (fun h2 hw => ?_)
  refine V.iload_n hc dX11_toCap_10 rfl rfl ?_
  refine V.iconst hc dX11_toCap_11 ?_
  refine V.sipush hc dX11_toCap_12 (by decide) ?_
  refine V.callSVx hc hxt rfl (qX11_needRange G l hlf _ _ _ _ _ _ hw) mo_X11_needRange ml_X11_320 (as := [(0, a3), (0, 0), (0, 399)]) rfl rfl rfl rfl rfl rfl dX11_toCap_15 (fun h3 hw => ?_)
  refine V.aload_n (t := 11) hc dX11_toCap_18 rfl rfl ?_
  refine V.gR hc gR_X11_98 (i' := 0) rfl dX11_toCap_19 ?_
  refine V.iload_n hc dX11_toCap_22 rfl rfl ?_
  refine V.iload_n hc dX11_toCap_23 rfl rfl ?_
  refine V.iload_n hc dX11_toCap_24 rfl rfl ?_
  refine V.callVI hc (qX2_greatestCap G l _ _ _ _ _ _ hw) mo_X2_greatestCap ml_X11_349 (by rfl) rfl rfl (as := [(0, a1), (0, a2), (0, a3)]) rfl rfl rfl rfl rfl ⟨by show _ ≤ 3; omega, by show _ ≤ 6 * 3; omega⟩ dX11_toCap_25 (fun x5 h4 hw => ?_)
  exact V.xiret hc hr dX11_toCap_28 rfl hw
theorem qX11_blocked (G : GG) (l : Launch) (hlf : l.stackTraces = false) (o : Int) (a1 : Int) (a2 : Int) (h : HP) (P : Int → HP → Prop) (X : Nat → HP → Prop) (hw : wX11_blocked o a1 a2 h P X) : CxI l G yX11_blocked cX11_blocked 3 (some .int) 13 2 [(21, o), (0, a1), (0, a2)] h P X := by
  refine CxI.of (lo := [(21, o), (0, a1), (0, a2)]) (by decide) rfl rfl rfl ?_
  intro p e s m args below meth c hc hr hxt
  have hc : VC G p (rmD 13 2) s m args meth c RX11 cX11_blocked 3 13 := hc
  refine V.aload_n (t := 11) hc dX11_blocked_0 rfl rfl ?_
  refine V.iload_n hc dX11_blocked_1 rfl rfl ?_
  refine V.callVVx hc hxt rfl (qX11_needQueue G l hlf _ _ _ _ _ hw) mo_X11_needQueue ml_X11_334 (by rfl) rfl rfl (as := [(0, a1)]) rfl rfl rfl rfl rfl rfl dX11_blocked_2 (fun h1 hw => ?_)
  refine V.aload_n (t := 11) hc dX11_blocked_5 rfl rfl ?_
  refine V.iload_n hc dX11_blocked_6 rfl rfl ?_
  refine V.callVVx hc hxt rfl (qX11_needLeaf G l hlf _ _ _ _ _ hw) mo_X11_needLeaf ml_X11_340 (by rfl) rfl rfl (as := [(0, a2)]) rfl rfl rfl rfl rfl rfl dX11_blocked_7 (fun h2 hw => ?_)
  refine V.aload_n (t := 11) hc dX11_blocked_10 rfl rfl ?_
  refine V.gR hc gR_X11_98 (i' := 0) rfl dX11_blocked_11 ?_
  refine V.iload_n hc dX11_blocked_14 rfl rfl ?_
  refine V.iload_n hc dX11_blocked_15 rfl rfl ?_
  refine V.callVI hc (qX2_bytesAhead G l _ _ _ _ _ hw) mo_X2_bytesAhead ml_X11_352 (by rfl) rfl rfl (as := [(0, a1), (0, a2)]) rfl rfl rfl rfl rfl ⟨by show _ ≤ 2; omega, by show _ ≤ 6 * 2; omega⟩ dX11_blocked_16 (fun x4 h3 hw => ?_)
  exact V.xiret hc hr dX11_blocked_19 rfl hw
theorem tX11_spread_10 {G : GG} {p : Program} {l : Launch} {e : Jvm.Env} {s : State} {m : MethodId} {args : Array Value} {below : List Frame} {meth : Method} {c : Code} {P : Int → HP → Prop} {X : Nat → HP → Prop} (hc : VC G p (rmD 13 2) s m args meth c RX11 cX11_spread 3 13) (hr : meth.sig.returnType = some .int) (hlf : l.stackTraces = false) (hxt : ∀ x ∈ c.exceptionTable.toList, False) {o : Int} {a1 : Int} {a2 : Int} {h : HP} (hw : wX11_spread_10 o a1 a2 P X h) : V G p l e (rmD 13 2) s m args below meth c (vx_MQ below (QI G P) (XX G X) args s 2 (6 * 2) (va_Aof G)) 3 10 [(21, o), (0, a1), (0, a2)] [] h (0 + 1) := by
  refine V.iload_n hc dX11_spread_10 rfl rfl ?_
  refine V.iconst hc dX11_spread_11 ?_
  refine V.sipush hc dX11_spread_12 (by decide) ?_
  refine V.callSVx hc hxt rfl (qX11_needRange G l hlf _ _ _ _ _ _ hw) mo_X11_needRange ml_X11_320 (as := [(0, a2), (0, 0), (0, 400)]) rfl rfl rfl rfl rfl rfl dX11_spread_15 (fun h3 hw => ?_)
  refine V.aload_n (t := 11) hc dX11_spread_18 rfl rfl ?_
  refine V.gR hc gR_X11_98 (i' := 0) rfl dX11_spread_19 ?_
  refine V.iload_n hc dX11_spread_22 rfl rfl ?_
  refine V.iconst hc dX11_spread_23 ?_
  obtain ⟨q6, hw⟩ := hw
  have kJ9 : ∀ t5 : Int, ((¬ a1 = (-1) → t5 = a1) ∧ (a1 = (-1) → t5 = 12)) → V G p l e (rmD 13 2) s m args below meth c (vx_MQ below (QI G P) (XX G X) args s 2 (6 * 2) (va_Aof G)) 3 33 [(1, 0), (1, 0), (0, a2)] [(0, t5), (12, 0)] h3 ((0 + 1) + 1) := by
    intro t5 he
    replace hw := hw t5 he
    clear he
    refine V.iload_n hc dX11_spread_33 rfl rfl ?_
    refine V.callVI hc (qX2_widestSpread G l _ _ _ _ _ hw) mo_X2_widestSpread ml_X11_355 (by rfl) rfl rfl (as := [(0, t5), (0, a2)]) rfl rfl rfl rfl rfl ⟨by show _ ≤ 2; omega, by show _ ≤ 6 * 2; omega⟩ dX11_spread_34 (fun x8 h7 hw => ?_)
    exact V.xiret hc hr dX11_spread_37 rfl hw
  have g4 := q6
  refine V.icmp_ne hc (tgt := 32) dX11_spread_24 (by decide) g4 (by omega) (fun c10 => ?_) (fun c10 => ?_)
  · refine V.iload_n hc dX11_spread_32 rfl rfl ?_
    refine V.drop (lo' := [(1, 0), (1, 0), (0, a2)]) ⟨Or.inl rfl, Or.inl rfl, Or.inr rfl, trivial⟩ ?_
    exact kJ9 _ ⟨fun _ => rfl, (fun q => absurd q c10)⟩
  · refine V.bipush hc dX11_spread_27 (by decide) ?_
    refine V.goto hc (tgt := 33) dX11_spread_29 (by decide) ?_
    refine V.drop (lo' := [(1, 0), (1, 0), (0, a2)]) ⟨Or.inl rfl, Or.inl rfl, Or.inr rfl, trivial⟩ ?_
    exact kJ9 _ ⟨(fun q => absurd c10 q), fun _ => rfl⟩
theorem qX11_spread (G : GG) (l : Launch) (hlf : l.stackTraces = false) (o : Int) (a1 : Int) (a2 : Int) (h : HP) (P : Int → HP → Prop) (X : Nat → HP → Prop) (hw : wX11_spread o a1 a2 h P X) : CxI l G yX11_spread cX11_spread 3 (some .int) 13 2 [(21, o), (0, a1), (0, a2)] h P X := by
  refine CxI.of (lo := [(21, o), (0, a1), (0, a2)]) (by decide) rfl rfl rfl ?_
  intro p e s m args below meth c hc hr hxt
  have hc : VC G p (rmD 13 2) s m args meth c RX11 cX11_spread 3 13 := hc
  refine V.iload_n hc dX11_spread_0 rfl rfl ?_
  refine V.iconst hc dX11_spread_1 ?_
  obtain ⟨g1, hw⟩ := hw
  refine V.icmp_eq hc (tgt := 10) dX11_spread_2 (by decide) g1 (by omega) (fun c2 => ?_) (fun c2 => ?_)
  · replace hw := hw.1 c2
    refine V.widen (n' := (0 + 1)) rfl ?_
    exact tX11_spread_10 hc hr hlf hxt  hw
  · replace hw := hw.2 c2
    refine V.aload_n (t := 11) hc dX11_spread_5 rfl rfl ?_
    refine V.iload_n hc dX11_spread_6 rfl rfl ?_
    refine V.callVVx hc hxt rfl (qX11_needClass G l hlf _ _ _ _ _ hw) mo_X11_needClass ml_X11_195 (by rfl) rfl rfl (as := [(0, a1)]) rfl rfl rfl rfl rfl rfl dX11_spread_7 (fun h11 hw => ?_)
    exact tX11_spread_10 hc hr hlf hxt  hw
theorem qX11_note (G : GG) (l : Launch) (o : Int) (a1 : Int) (a2 : Int) (a3 : Int) (h : HP) (P : Int → HP → Prop) (hw : wX11_note o a1 a2 a3 h P) : CnI l G yX11_note cX11_note 5 (some .int) 9 [(21, o), (0, a1), (0, a2), (0, a3)] h P := by
  refine CnI.of (lo := [(21, o), (0, a1), (0, a2), (0, a3), (1, 0)]) (by decide) rfl rfl rfl ?_
  intro p e s m args below meth c hc hr
  have hc : VC G p (rmD 9 0) s m args meth c RX11 cX11_note 5 9 := hc
  refine V.aload_n (t := 11) hc dX11_note_0 rfl rfl ?_
  refine V.gR hc gR_X11_26 (i' := 1) rfl dX11_note_1 ?_
  refine V.iload_n hc dX11_note_4 rfl rfl ?_
  refine V.callVI hc (qX8_hasClass G l _ _ _ _ hw) mo_X8_hasClass ml_X11_278 (by rfl) rfl rfl (as := [(0, a1)]) rfl rfl rfl rfl rfl ⟨Nat.zero_le _, Nat.zero_le _⟩ dX11_note_5 (fun x2 h1 hw => ?_)
  obtain ⟨q9, hw⟩ := hw
  have kJ19 : ∀ t8 : Int, ((x2 = 0 → t8 = 0) ∧ (¬ x2 = 0 → ((a2 < 0 → t8 = 0) ∧ (¬ a2 < 0 → ((100 < a2 → t8 = 0) ∧ (¬ 100 < a2 → ((a3 < 0 → t8 = 0) ∧ (¬ a3 < 0 → ((9999 < a3 → t8 = 0) ∧ (¬ 9999 < a3 → t8 = 1)))))))))) → V G p l e (rmD 9 0) s m args below meth c (MQ below (QI G P) args s 0 0 (va_Aof G)) 5 37 [(21, o), (0, a1), (0, a2), (0, a3), (1, 0)] [(0, t8)] h1 0 := by
    intro t8 he
    replace hw := hw t8 he
    clear he
    refine V.istore hc dX11_note_37 rfl (lo' := [(21, o), (0, a1), (0, a2), (0, a3), (0, t8)]) rfl ?_
    refine V.iload hc dX11_note_39 rfl ?_
    obtain ⟨g10, hw⟩ := hw
    refine V.if_eq hc (tgt := 56) dX11_note_41 (by decide) g10 (fun c11 => ?_) (fun c11 => ?_)
    · replace hw := hw.1 c11
      refine V.aload_n (t := 11) hc dX11_note_56 rfl rfl ?_
      refine V.iconst hc dX11_note_57 ?_
      refine V.callVI hc (qX11_refuse G l _ _ _ _ hw) mo_X11_refuse ml_X11_264 (by rfl) rfl rfl (as := [(0, 2)]) rfl rfl rfl rfl rfl ⟨Nat.zero_le _, Nat.zero_le _⟩ dX11_note_58 (fun x13 h12 hw => ?_)
      exact V.iret hc hr dX11_note_61 hw
    · replace hw := hw.2 c11
      refine V.aload_n (t := 11) hc dX11_note_44 rfl rfl ?_
      refine V.gR hc gR_X11_61 (i' := 5) rfl dX11_note_45 ?_
      refine V.gI hc gI_X11_189 rfl dX11_note_48 ?_
      refine V.bipush hc dX11_note_51 (by decide) ?_
      obtain ⟨g14, hw⟩ := hw
      refine V.icmp_lt hc (tgt := 62) dX11_note_53 (by decide) g14 (by omega) (fun c15 => ?_) (fun c15 => ?_)
      · replace hw := hw.1 c15
        refine V.aload_n (t := 11) hc dX11_note_62 rfl rfl ?_
        refine V.gR hc gR_X11_61 (i' := 5) rfl dX11_note_63 ?_
        refine V.iload_n hc dX11_note_66 rfl rfl ?_
        refine V.iload_n hc dX11_note_67 rfl rfl ?_
        refine V.iload_n hc dX11_note_68 rfl rfl ?_
        refine V.callVV hc (qX7_add G l _ _ _ _ _ _ hw) mo_X7_add ml_X11_358 (by rfl) rfl rfl (as := [(0, a1), (0, a2), (0, a3)]) rfl rfl rfl rfl rfl ⟨Nat.zero_le _, Nat.zero_le _⟩ dX11_note_69 (fun h16 hw => ?_)
        refine V.aload_n (t := 11) hc dX11_note_72 rfl rfl ?_
        refine V.gR hc gR_X11_61 (i' := 5) rfl dX11_note_73 ?_
        refine V.gI hc gI_X11_189 rfl dX11_note_76 ?_
        exact V.iret hc hr dX11_note_79 hw
      · replace hw := hw.2 c15
        refine V.aload_n (t := 11) hc dX11_note_56 rfl rfl ?_
        refine V.iconst hc dX11_note_57 ?_
        refine V.callVI hc (qX11_refuse G l _ _ _ _ hw) mo_X11_refuse ml_X11_264 (by rfl) rfl rfl (as := [(0, 2)]) rfl rfl rfl rfl rfl ⟨Nat.zero_le _, Nat.zero_le _⟩ dX11_note_58 (fun x18 h17 hw => ?_)
        exact V.iret hc hr dX11_note_61 hw
  obtain ⟨g3, q20⟩ := q9
  refine V.if_eq hc (tgt := 36) dX11_note_8 (by decide) g3 (fun c21 => ?_) (fun c21 => ?_)
  · refine V.iconst hc dX11_note_36 ?_
    exact kJ19 _ ⟨fun _ => rfl, (fun q => absurd c21 q)⟩
  · have q22 := q20 c21
    obtain ⟨g4, q23⟩ := q22
    refine V.iload_n hc dX11_note_11 rfl rfl ?_
    refine V.if_lt hc (tgt := 36) dX11_note_12 (by decide) g4 (fun c24 => ?_) (fun c24 => ?_)
    · refine V.iconst hc dX11_note_36 ?_
      exact kJ19 _ ⟨(fun q => absurd q c21), fun _ => ⟨fun _ => rfl, (fun q => absurd c24 q)⟩⟩
    · have q25 := q23 c24
      obtain ⟨g5, q26⟩ := q25
      refine V.iload_n hc dX11_note_15 rfl rfl ?_
      refine V.bipush hc dX11_note_16 (by decide) ?_
      refine V.icmp_gt hc (tgt := 36) dX11_note_18 (by decide) g5 (by omega) (fun c27 => ?_) (fun c27 => ?_)
      · refine V.iconst hc dX11_note_36 ?_
        exact kJ19 _ ⟨(fun q => absurd q c21), fun _ => ⟨(fun q => absurd q c24), fun _ => ⟨fun _ => rfl, (fun q => absurd c27 q)⟩⟩⟩
      · have q28 := q26 c27
        obtain ⟨g6, q29⟩ := q28
        refine V.iload_n hc dX11_note_21 rfl rfl ?_
        refine V.if_lt hc (tgt := 36) dX11_note_22 (by decide) g6 (fun c30 => ?_) (fun c30 => ?_)
        · refine V.iconst hc dX11_note_36 ?_
          exact kJ19 _ ⟨(fun q => absurd q c21), fun _ => ⟨(fun q => absurd q c24), fun _ => ⟨(fun q => absurd q c27), fun _ => ⟨fun _ => rfl, (fun q => absurd c30 q)⟩⟩⟩⟩
        · have q31 := q29 c30
          have g7 := q31
          refine V.iload_n hc dX11_note_25 rfl rfl ?_
          refine V.sipush hc dX11_note_26 (by decide) ?_
          refine V.icmp_gt hc (tgt := 36) dX11_note_29 (by decide) g7 (by omega) (fun c32 => ?_) (fun c32 => ?_)
          · refine V.iconst hc dX11_note_36 ?_
            exact kJ19 _ ⟨(fun q => absurd q c21), fun _ => ⟨(fun q => absurd q c24), fun _ => ⟨(fun q => absurd q c27), fun _ => ⟨(fun q => absurd q c30), fun _ => ⟨fun _ => rfl, (fun q => absurd c32 q)⟩⟩⟩⟩⟩
          · refine V.iconst hc dX11_note_32 ?_
            refine V.goto hc (tgt := 37) dX11_note_33 (by decide) ?_
            exact kJ19 _ ⟨(fun q => absurd q c21), fun _ => ⟨(fun q => absurd q c24), fun _ => ⟨(fun q => absurd q c27), fun _ => ⟨(fun q => absurd q c30), fun _ => ⟨(fun q => absurd q c32), fun _ => rfl⟩⟩⟩⟩⟩
theorem qX11_other (G : GG) (l : Launch) (hlf : l.stackTraces = false) (o : Int) (a1 : Int) (h : HP) (P : Int → HP → Prop) (X : Nat → HP → Prop) (hw : wX11_other o a1 h P X) : CxI l G yX11_other cX11_other 2 (some .int) 15 1 [(21, o), (0, a1)] h P X := by
  refine CxI.of (lo := [(21, o), (0, a1)]) (by decide) rfl rfl rfl ?_
  intro p e s m args below meth c hc hr hxt
  have hc : VC G p (rmD 15 1) s m args meth c RX11 cX11_other 2 15 := hc
  refine V.iload_n hc dX11_other_0 rfl rfl ?_
  obtain ⟨g1, hw⟩ := hw
  refine V.if_lt hc (tgt := 9) dX11_other_1 (by decide) g1 (fun c2 => ?_) (fun c2 => ?_)
  · replace hw := hw.1 c2
    exact V.throwN hc hlf hxt rfl rfl rfl dX11_other_9 dX11_other_12 dX11_other_13 dX11_other_16 hw
  · replace hw := hw.2 c2
    refine V.iload_n hc dX11_other_4 rfl rfl ?_
    refine V.iconst hc dX11_other_5 ?_
    obtain ⟨g3, hw⟩ := hw
    refine V.icmp_le hc (tgt := 17) dX11_other_6 (by decide) g3 (by omega) (fun c4 => ?_) (fun c4 => ?_)
    · replace hw := hw.1 c4
      refine V.iload_n hc dX11_other_17 rfl rfl ?_
      refine V.iconst hc dX11_other_18 ?_
      obtain ⟨g5, hw⟩ := hw
      refine V.icmp_ne hc (tgt := 38) dX11_other_19 (by decide) g5 (by omega) (fun c6 => ?_) (fun c6 => ?_)
      · replace hw := hw.1 c6
        refine V.aload_n (t := 11) hc dX11_other_38 rfl rfl ?_
        refine V.gR hc gR_X11_107 (i' := 0) rfl dX11_other_39 ?_
        refine V.iconst hc dX11_other_42 ?_
        refine V.callVV hc (qX4_tryAll G l _ _ _ _ hw) mo_X4_tryAll ml_X11_365 (by rfl) rfl rfl (as := [(0, 0)]) rfl rfl rfl rfl rfl ⟨by show _ ≤ 1; omega, by show _ ≤ 6 * 1; omega⟩ dX11_other_43 (fun h7 hw => ?_)
        refine V.iload_n hc dX11_other_46 rfl rfl ?_
        obtain ⟨q10, hw⟩ := hw
        have kJ11 : ∀ t9 : Int, ((¬ a1 = 0 → t9 = h7 4 0 5) ∧ (a1 = 0 → t9 = h7 4 0 4)) → V G p l e (rmD 15 1) s m args below meth c (vx_MQ below (QI G P) (XX G X) args s 1 (6 * 1) (va_Aof G)) 2 67 [(1, 0), (1, 0)] [(0, t9)] h7 0 := by
          intro t9 he
          replace hw := hw t9 he
          clear he
          exact V.xiret hc hr dX11_other_67 rfl hw
        have g8 := q10
        refine V.if_ne hc (tgt := 60) dX11_other_47 (by decide) g8 (fun c12 => ?_) (fun c12 => ?_)
        · refine V.aload_n (t := 11) hc dX11_other_60 rfl rfl ?_
          refine V.gR hc gR_X11_107 (i' := 0) rfl dX11_other_61 ?_
          refine V.gI hc gI_X11_370 rfl dX11_other_64 ?_
          refine V.drop (lo' := [(1, 0), (1, 0)]) ⟨Or.inl rfl, Or.inl rfl, trivial⟩ ?_
          exact kJ11 _ ⟨fun _ => rfl, (fun q => absurd q c12)⟩
        · refine V.aload_n (t := 11) hc dX11_other_50 rfl rfl ?_
          refine V.gR hc gR_X11_107 (i' := 0) rfl dX11_other_51 ?_
          refine V.gI hc gI_X11_369 rfl dX11_other_54 ?_
          refine V.goto hc (tgt := 67) dX11_other_57 (by decide) ?_
          refine V.drop (lo' := [(1, 0), (1, 0)]) ⟨Or.inl rfl, Or.inl rfl, trivial⟩ ?_
          exact kJ11 _ ⟨(fun q => absurd c12 q), fun _ => rfl⟩
      · replace hw := hw.2 c6
        refine V.aload_n (t := 11) hc dX11_other_22 rfl rfl ?_
        refine V.gR hc gR_X11_107 (i' := 0) rfl dX11_other_23 ?_
        refine V.callVI hc (qX4_holdsWithout G l _ _ _ hw) mo_X4_holdsWithout ml_X11_361 (by rfl) rfl rfl (as := []) rfl rfl rfl rfl rfl ⟨by show _ ≤ 1; omega, by show _ ≤ 6 * 1; omega⟩ dX11_other_26 (fun x14 h13 hw => ?_)
        obtain ⟨q17, hw⟩ := hw
        have kJ18 : ∀ t16 : Int, ((x14 = 0 → t16 = 0) ∧ (¬ x14 = 0 → t16 = 1)) → V G p l e (rmD 15 1) s m args below meth c (vx_MQ below (QI G P) (XX G X) args s 1 (6 * 1) (va_Aof G)) 2 37 [(1, 0), (1, 0)] [(0, t16)] h13 0 := by
          intro t16 he
          replace hw := hw t16 he
          clear he
          exact V.xiret hc hr dX11_other_37 rfl hw
        have g15 := q17
        refine V.if_eq hc (tgt := 36) dX11_other_29 (by decide) g15 (fun c19 => ?_) (fun c19 => ?_)
        · refine V.iconst hc dX11_other_36 ?_
          refine V.drop (lo' := [(1, 0), (1, 0)]) ⟨Or.inl rfl, Or.inl rfl, trivial⟩ ?_
          exact kJ18 _ ⟨fun _ => rfl, (fun q => absurd c19 q)⟩
        · refine V.iconst hc dX11_other_32 ?_
          refine V.goto hc (tgt := 37) dX11_other_33 (by decide) ?_
          refine V.drop (lo' := [(1, 0), (1, 0)]) ⟨Or.inl rfl, Or.inl rfl, trivial⟩ ?_
          exact kJ18 _ ⟨(fun q => absurd q c19), fun _ => rfl⟩
    · replace hw := hw.2 c4
      exact V.throwN hc hlf hxt rfl rfl rfl dX11_other_9 dX11_other_12 dX11_other_13 dX11_other_16 hw
theorem qX11_look (G : GG) (l : Launch) (hlf : l.stackTraces = false) (o : Int) (a1 : Int) (h : HP) (P : Int → HP → Prop) (X : Nat → HP → Prop) (hw : wX11_look o a1 h P X) : CxI l G yX11_look cX11_look 2 (some .int) 15 1 [(21, o), (0, a1)] h P X := by
  refine CxI.of (lo := [(21, o), (0, a1)]) (by decide) rfl rfl rfl ?_
  intro p e s m args below meth c hc hr hxt
  have hc : VC G p (rmD 15 1) s m args meth c RX11 cX11_look 2 15 := hc
  refine V.iload_n hc dX11_look_0 rfl rfl ?_
  obtain ⟨g1, hw⟩ := hw
  refine V.if_lt hc (tgt := 9) dX11_look_1 (by decide) g1 (fun c2 => ?_) (fun c2 => ?_)
  · replace hw := hw.1 c2
    exact V.throwN hc hlf hxt rfl rfl rfl dX11_look_9 dX11_look_12 dX11_look_13 dX11_look_16 hw
  · replace hw := hw.2 c2
    refine V.iload_n hc dX11_look_4 rfl rfl ?_
    refine V.iconst hc dX11_look_5 ?_
    obtain ⟨g3, hw⟩ := hw
    refine V.icmp_le hc (tgt := 17) dX11_look_6 (by decide) g3 (by omega) (fun c4 => ?_) (fun c4 => ?_)
    · replace hw := hw.1 c4
      refine V.aload_n (t := 11) hc dX11_look_17 rfl rfl ?_
      refine V.gR hc gR_X11_107 (i' := 0) rfl dX11_look_18 ?_
      refine V.iconst hc dX11_look_21 ?_
      refine V.callVV hc (qX4_tryAll G l _ _ _ _ hw) mo_X4_tryAll ml_X11_365 (by rfl) rfl rfl (as := [(0, 1)]) rfl rfl rfl rfl rfl ⟨by show _ ≤ 1; omega, by show _ ≤ 6 * 1; omega⟩ dX11_look_22 (fun h5 hw => ?_)
      refine V.iload_n hc dX11_look_25 rfl rfl ?_
      obtain ⟨g6, hw⟩ := hw
      refine V.if_ne hc (tgt := 39) dX11_look_26 (by decide) g6 (fun c7 => ?_) (fun c7 => ?_)
      · replace hw := hw.1 c7
        refine V.aload_n (t := 11) hc dX11_look_39 rfl rfl ?_
        refine V.gR hc gR_X11_107 (i' := 0) rfl dX11_look_40 ?_
        refine V.aload_n (t := 11) hc dX11_look_43 rfl rfl ?_
        refine V.gR hc gR_X11_107 (i' := 0) rfl dX11_look_44 ?_
        refine V.callVI hc (qX4_mostUnlike G l _ _ _ hw) mo_X4_mostUnlike ml_X11_373 (by rfl) rfl rfl (as := []) rfl rfl rfl rfl rfl ⟨by show _ ≤ 1; omega, by show _ ≤ 6 * 1; omega⟩ dX11_look_47 (fun x9 h8 hw => ?_)
        refine V.callVI hc (qX4_unlikeOf G l _ _ _ _ hw) mo_X4_unlikeOf ml_X11_376 (by rfl) rfl rfl (as := [(0, x9)]) rfl rfl rfl rfl rfl ⟨by show _ ≤ 1; omega, by show _ ≤ 6 * 1; omega⟩ dX11_look_50 (fun x11 h10 hw => ?_)
        exact V.xiret hc hr dX11_look_53 rfl hw
      · replace hw := hw.2 c7
        refine V.aload_n (t := 11) hc dX11_look_29 rfl rfl ?_
        refine V.gR hc gR_X11_107 (i' := 0) rfl dX11_look_30 ?_
        refine V.callVI hc (qX4_mostUnlike G l _ _ _ hw) mo_X4_mostUnlike ml_X11_373 (by rfl) rfl rfl (as := []) rfl rfl rfl rfl rfl ⟨by show _ ≤ 1; omega, by show _ ≤ 6 * 1; omega⟩ dX11_look_33 (fun x13 h12 hw => ?_)
        refine V.goto hc (tgt := 53) dX11_look_36 (by decide) ?_
        exact V.xiret hc hr dX11_look_53 rfl hw
    · replace hw := hw.2 c4
      exact V.throwN hc hlf hxt rfl rfl rfl dX11_look_9 dX11_look_12 dX11_look_13 dX11_look_16 hw
theorem qX11_forget (G : GG) (l : Launch) (o : Int) (h : HP) (P : HP → Prop) (hw : wX11_forget o h P) : CnV l G yX11_forget cX11_forget 1 9 [(21, o)] h P := by
  refine CnV.of (lo := [(21, o)]) (by decide) rfl rfl rfl ?_
  intro p e s m args below meth c hc hr
  have hc : VC G p (rmD 9 0) s m args meth c RX11 cX11_forget 1 9 := hc
  refine V.aload_n (t := 11) hc dX11_forget_0 rfl rfl ?_
  refine V.gR hc gR_X11_61 (i' := 5) rfl dX11_forget_1 ?_
  refine V.callVV hc (qX7_clear G l _ _ _ hw) mo_X7_clear ml_X11_149 (by rfl) rfl rfl (as := []) rfl rfl rfl rfl rfl ⟨Nat.zero_le _, Nat.zero_le _⟩ dX11_forget_4 (fun h1 hw => ?_)
  exact V.vret hc hr dX11_forget_7 hw
theorem qX11_storms (G : GG) (l : Launch) (hlf : l.stackTraces = false) (o : Int) (a1 : Int) (a2 : Int) (a3 : Int) (a4 : Int) (h : HP) (P : Int → HP → Prop) (X : Nat → HP → Prop) (hw : wX11_storms o a1 a2 a3 a4 h P X) : CxI l G yX11_storms cX11_storms 5 (some .int) 15 3 [(21, o), (0, a1), (0, a2), (0, a3), (0, a4)] h P X := by
  refine CxI.of (lo := [(21, o), (0, a1), (0, a2), (0, a3), (0, a4)]) (by decide) rfl rfl rfl ?_
  intro p e s m args below meth c hc hr hxt
  have hc : VC G p (rmD 15 3) s m args meth c RX11 cX11_storms 5 15 := hc
  refine V.aload_n (t := 11) hc dX11_storms_0 rfl rfl ?_
  refine V.gR hc gR_X11_26 (i' := 1) rfl dX11_storms_1 ?_
  refine V.iload_n hc dX11_storms_4 rfl rfl ?_
  refine V.callVI hc (qX8_hasFlow G l _ _ _ _ hw) mo_X8_hasFlow ml_X11_302 (by rfl) rfl rfl (as := [(0, a1)]) rfl rfl rfl rfl rfl ⟨by show _ ≤ 3; omega, by show _ ≤ 6 * 3; omega⟩ dX11_storms_5 (fun x2 h1 hw => ?_)
  obtain ⟨g3, hw⟩ := hw
  refine V.if_ne hc (tgt := 19) dX11_storms_8 (by decide) g3 (fun c4 => ?_) (fun c4 => ?_)
  · replace hw := hw.1 c4
    refine V.iload_n hc dX11_storms_19 rfl rfl ?_
    refine V.iconst hc dX11_storms_20 ?_
    refine V.iconst hc dX11_storms_21 ?_
    refine V.callSVx hc hxt rfl (qX11_needRange G l hlf _ _ _ _ _ _ hw) mo_X11_needRange ml_X11_320 (as := [(0, a2), (0, 1), (0, 5)]) rfl rfl rfl rfl rfl rfl dX11_storms_22 (fun h5 hw => ?_)
    refine V.iload_n hc dX11_storms_25 rfl rfl ?_
    refine V.iconst hc dX11_storms_26 ?_
    refine V.bipush hc dX11_storms_27 (by decide) ?_
    refine V.callSVx hc hxt rfl (qX11_needRange G l hlf _ _ _ _ _ _ hw) mo_X11_needRange ml_X11_320 (as := [(0, a3), (0, 0), (0, 10)]) rfl rfl rfl rfl rfl rfl dX11_storms_29 (fun h6 hw => ?_)
    refine V.aload_n (t := 11) hc dX11_storms_32 rfl rfl ?_
    refine V.gR hc gR_X11_114 (i' := 0) rfl dX11_storms_33 ?_
    refine V.iload_n hc dX11_storms_36 rfl rfl ?_
    refine V.iload_n hc dX11_storms_37 rfl rfl ?_
    refine V.iload_n hc dX11_storms_38 rfl rfl ?_
    refine V.iload hc dX11_storms_39 rfl ?_
    refine V.callVI hc (qX0_likelyAtMost G l _ _ _ _ _ _ _ hw) mo_X0_likelyAtMost ml_X11_379 (by rfl) rfl rfl (as := [(0, a1), (0, a2), (0, a3), (0, a4)]) rfl rfl rfl rfl rfl ⟨by show _ ≤ 3; omega, by show _ ≤ 6 * 3; omega⟩ dX11_storms_41 (fun x8 h7 hw => ?_)
    exact V.xiret hc hr dX11_storms_44 rfl hw
  · replace hw := hw.2 c4
    exact V.throwN hc hlf hxt rfl rfl rfl dX11_storms_11 dX11_storms_14 dX11_storms_15 dX11_storms_18 hw
theorem qX11_years (G : GG) (l : Launch) (hlf : l.stackTraces = false) (o : Int) (a1 : Int) (a2 : Int) (a3 : Int) (h : HP) (P : Int → HP → Prop) (X : Nat → HP → Prop) (hw : wX11_years o a1 a2 a3 h P X) : CxI l G yX11_years cX11_years 4 (some .int) 14 2 [(21, o), (0, a1), (0, a2), (0, a3)] h P X := by
  refine CxI.of (lo := [(21, o), (0, a1), (0, a2), (0, a3)]) (by decide) rfl rfl rfl ?_
  intro p e s m args below meth c hc hr hxt
  have hc : VC G p (rmD 14 2) s m args meth c RX11 cX11_years 4 14 := hc
  refine V.iload_n hc dX11_years_0 rfl rfl ?_
  obtain ⟨g1, hw⟩ := hw
  refine V.if_lt hc (tgt := 9) dX11_years_1 (by decide) g1 (fun c2 => ?_) (fun c2 => ?_)
  · replace hw := hw.1 c2
    exact V.throwN hc hlf hxt rfl rfl rfl dX11_years_9 dX11_years_12 dX11_years_13 dX11_years_16 hw
  · replace hw := hw.2 c2
    refine V.iload_n hc dX11_years_4 rfl rfl ?_
    refine V.iconst hc dX11_years_5 ?_
    obtain ⟨g3, hw⟩ := hw
    refine V.icmp_le hc (tgt := 17) dX11_years_6 (by decide) g3 (by omega) (fun c4 => ?_) (fun c4 => ?_)
    · replace hw := hw.1 c4
      refine V.iload_n hc dX11_years_17 rfl rfl ?_
      refine V.iconst hc dX11_years_18 ?_
      refine V.bipush hc dX11_years_19 (by decide) ?_
      refine V.callSVx hc hxt rfl (qX11_needRange G l hlf _ _ _ _ _ _ hw) mo_X11_needRange ml_X11_320 (as := [(0, a2), (0, 0), (0, 60)]) rfl rfl rfl rfl rfl rfl dX11_years_21 (fun h5 hw => ?_)
      refine V.aload_n (t := 11) hc dX11_years_24 rfl rfl ?_
      refine V.gR hc gR_X11_114 (i' := 0) rfl dX11_years_25 ?_
      refine V.iload_n hc dX11_years_28 rfl rfl ?_
      refine V.iload_n hc dX11_years_29 rfl rfl ?_
      refine V.iload_n hc dX11_years_30 rfl rfl ?_
      refine V.callVI hc (qX0_liveThrough G l _ _ _ _ _ _ hw) mo_X0_liveThrough ml_X11_383 (by rfl) rfl rfl (as := [(0, a1), (0, a2), (0, a3)]) rfl rfl rfl rfl rfl ⟨by show _ ≤ 2; omega, by show _ ≤ 6 * 2; omega⟩ dX11_years_31 (fun x7 h6 hw => ?_)
      exact V.xiret hc hr dX11_years_34 rfl hw
    · replace hw := hw.2 c4
      exact V.throwN hc hlf hxt rfl rfl rfl dX11_years_9 dX11_years_12 dX11_years_13 dX11_years_16 hw
theorem qX11_told (G : GG) (l : Launch) (hlf : l.stackTraces = false) (o : Int) (a1 : Int) (a2 : Int) (h : HP) (P : Int → HP → Prop) (X : Nat → HP → Prop) (hw : wX11_told o a1 a2 h P X) : CxI l G yX11_told cX11_told 3 (some .int) 11 2 [(21, o), (0, a1), (0, a2)] h P X := by
  refine CxI.of (lo := [(21, o), (0, a1), (0, a2)]) (by decide) rfl rfl rfl ?_
  intro p e s m args below meth c hc hr hxt
  have hc : VC G p (rmD 11 2) s m args meth c RX11 cX11_told 3 11 := hc
  refine V.aload_n (t := 11) hc dX11_told_0 rfl rfl ?_
  refine V.iload_n hc dX11_told_1 rfl rfl ?_
  refine V.callVVx hc hxt rfl (qX11_needClass G l hlf _ _ _ _ _ hw) mo_X11_needClass ml_X11_195 (by rfl) rfl rfl (as := [(0, a1)]) rfl rfl rfl rfl rfl rfl dX11_told_2 (fun h1 hw => ?_)
  refine V.aload_n (t := 11) hc dX11_told_5 rfl rfl ?_
  refine V.gR hc gR_X11_121 (i' := 0) rfl dX11_told_6 ?_
  refine V.iload_n hc dX11_told_9 rfl rfl ?_
  refine V.aload_n (t := 11) hc dX11_told_10 rfl rfl ?_
  refine V.gR hc gR_X11_26 (i' := 1) rfl dX11_told_11 ?_
  refine V.aload_n (t := 11) hc dX11_told_14 rfl rfl ?_
  refine V.gR hc gR_X11_47 (i' := 10) rfl dX11_told_15 ?_
  refine V.gR hc gR_X11_233 (i' := 10) rfl dX11_told_18 ?_
  refine V.callVV hc (qX10_tell G l _ _ _ _ _ _ hw) mo_X10_tell ml_X11_386 (by rfl) rfl rfl (as := [(0, a1), (18, 1), (11, 10)]) rfl rfl rfl rfl rfl ⟨by show _ ≤ 2; omega, by show _ ≤ 6 * 2; omega⟩ dX11_told_21 (fun h2 hw => ?_)
  refine V.iload_n hc dX11_told_24 rfl rfl ?_
  refine V.iconst hc dX11_told_25 ?_
  obtain ⟨g3, hw⟩ := hw
  refine V.icmp_ne hc (tgt := 37) dX11_told_26 (by decide) g3 (by omega) (fun c4 => ?_) (fun c4 => ?_)
  · replace hw := hw.1 c4
    refine V.iload_n hc dX11_told_37 rfl rfl ?_
    obtain ⟨g5, hw⟩ := hw
    refine V.if_lt hc (tgt := 52) dX11_told_38 (by decide) g5 (fun c6 => ?_) (fun c6 => ?_)
    · replace hw := hw.1 c6
      exact V.throwN hc hlf hxt rfl rfl rfl dX11_told_52 dX11_told_55 dX11_told_56 dX11_told_59 hw
    · replace hw := hw.2 c6
      refine V.iload_n hc dX11_told_41 rfl rfl ?_
      refine V.aload_n (t := 11) hc dX11_told_42 rfl rfl ?_
      refine V.gR hc gR_X11_121 (i' := 0) rfl dX11_told_43 ?_
      refine V.gI hc gI_X11_390 rfl dX11_told_46 ?_
      obtain ⟨g7, hw⟩ := hw
      obtain ⟨g8, hw⟩ := hw
      refine V.icmp_lt hc (tgt := 60) dX11_told_49 (by decide) g7 g8 (fun c9 => ?_) (fun c9 => ?_)
      · replace hw := hw.1 c9
        refine V.aload_n (t := 11) hc dX11_told_60 rfl rfl ?_
        refine V.gR hc gR_X11_121 (i' := 0) rfl dX11_told_61 ?_
        refine V.gR hc gR_X11_393 (i' := 0) rfl dX11_told_64 ?_
        refine V.iload_n hc dX11_told_67 rfl rfl ?_
        obtain ⟨g10, hw⟩ := hw
        refine V.ald hc ak_44 g10 dX11_told_68 ?_
        exact V.xiret hc hr dX11_told_69 rfl hw
      · replace hw := hw.2 c9
        exact V.throwN hc hlf hxt rfl rfl rfl dX11_told_52 dX11_told_55 dX11_told_56 dX11_told_59 hw
  · replace hw := hw.2 c4
    refine V.aload_n (t := 11) hc dX11_told_29 rfl rfl ?_
    refine V.gR hc gR_X11_121 (i' := 0) rfl dX11_told_30 ?_
    refine V.gI hc gI_X11_390 rfl dX11_told_33 ?_
    exact V.xiret hc hr dX11_told_36 rfl hw
theorem qX11_image (G : GG) (l : Launch) (o : Int) (h : HP) (P : HP → Prop) (hw : wX11_image o h P) : CnV l G yX11_image cX11_image 1 11 [(21, o)] h P := by
  refine CnV.of (lo := [(21, o)]) (by decide) rfl rfl rfl ?_
  intro p e s m args below meth c hc hr
  have hc : VC G p (rmD 11 0) s m args meth c RX11 cX11_image 1 11 := hc
  refine V.aload_n (t := 11) hc dX11_image_0 rfl rfl ?_
  refine V.gR hc gR_X11_69 (i' := 11) rfl dX11_image_1 ?_
  refine V.aload_n (t := 11) hc dX11_image_4 rfl rfl ?_
  refine V.gR hc gR_X11_47 (i' := 10) rfl dX11_image_5 ?_
  refine V.callVV hc (qX6_copyFrom G l _ _ _ _ hw) mo_X6_copyFrom ml_X11_396 (by rfl) rfl rfl (as := [(16, 10)]) rfl rfl rfl rfl rfl ⟨Nat.zero_le _, Nat.zero_le _⟩ dX11_image_8 (fun h1 hw => ?_)
  refine V.aload_n (t := 11) hc dX11_image_11 rfl rfl ?_
  refine V.gR hc gR_X11_72 (i' := 4) rfl dX11_image_12 ?_
  refine V.aload_n (t := 11) hc dX11_image_15 rfl rfl ?_
  refine V.gR hc gR_X11_54 (i' := 3) rfl dX11_image_16 ?_
  refine V.callVV hc (qX5_copyFrom G l _ _ _ _ hw) mo_X5_copyFrom ml_X11_398 (by rfl) rfl rfl (as := [(15, 3)]) rfl rfl rfl rfl rfl ⟨Nat.zero_le _, Nat.zero_le _⟩ dX11_image_19 (fun h2 hw => ?_)
  refine V.aload_n (t := 11) hc dX11_image_22 rfl rfl ?_
  refine V.gR hc gR_X11_75 (i' := 6) rfl dX11_image_23 ?_
  refine V.aload_n (t := 11) hc dX11_image_26 rfl rfl ?_
  refine V.gR hc gR_X11_61 (i' := 5) rfl dX11_image_27 ?_
  refine V.callVV hc (qX7_copyFrom G l _ _ _ _ hw) mo_X7_copyFrom ml_X11_401 (by rfl) rfl rfl (as := [(17, 5)]) rfl rfl rfl rfl rfl ⟨Nat.zero_le _, Nat.zero_le _⟩ dX11_image_30 (fun h3 hw => ?_)
  refine V.aload_n (t := 11) hc dX11_image_33 rfl rfl ?_
  refine V.gR hc gR_X11_20 (i' := o) rfl dX11_image_34 ?_
  refine V.iconst hc dX11_image_37 ?_
  refine V.aload_n (t := 11) hc dX11_image_38 rfl rfl ?_
  refine V.gR hc gR_X11_78 (i' := o) rfl dX11_image_39 ?_
  refine V.iconst hc dX11_image_42 ?_
  refine V.aload_n (t := 11) hc dX11_image_43 rfl rfl ?_
  refine V.gR hc gR_X11_20 (i' := o) rfl dX11_image_44 ?_
  refine V.aln hc ak_46 dX11_image_47 ?_
  obtain ⟨g5, hw⟩ := hw
  refine V.acp hc ml_X11_404 rfl ak_46 ak_47 g5 dX11_image_48 (fun h4 e => ?_)
  replace hw := hw h4 e
  clear e
  refine V.aload_n (t := 11) hc dX11_image_51 rfl rfl ?_
  refine V.iconst hc dX11_image_52 ?_
  refine V.pZ hc pI_X11_65 rfl (by omega) dX11_image_53 (fun h6 e => ?_)
  replace hw := hw h6 e
  clear e
  exact V.vret hc hr dX11_image_56 hw
theorem qX11_restore (G : GG) (l : Launch) (o : Int) (h : HP) (P : Int → HP → Prop) (hw : wX11_restore o h P) : CnI l G yX11_restore cX11_restore 1 (some .boolean) 11 [(21, o)] h P := by
  refine CnI.of (lo := [(21, o)]) (by decide) rfl rfl rfl ?_
  intro p e s m args below meth c hc hr
  have hc : VC G p (rmD 11 0) s m args meth c RX11 cX11_restore 1 11 := hc
  refine V.aload_n (t := 11) hc dX11_restore_0 rfl rfl ?_
  refine V.gI hc gI_X11_65 rfl dX11_restore_1 ?_
  obtain ⟨g1, hw⟩ := hw
  refine V.if_ne hc (tgt := 9) dX11_restore_4 (by decide) g1 (fun c2 => ?_) (fun c2 => ?_)
  · replace hw := hw.1 c2
    refine V.aload_n (t := 11) hc dX11_restore_9 rfl rfl ?_
    refine V.gR hc gR_X11_47 (i' := 10) rfl dX11_restore_10 ?_
    refine V.aload_n (t := 11) hc dX11_restore_13 rfl rfl ?_
    refine V.gR hc gR_X11_69 (i' := 11) rfl dX11_restore_14 ?_
    refine V.callVV hc (qX6_copyFrom G l _ _ _ _ hw) mo_X6_copyFrom ml_X11_396 (by rfl) rfl rfl (as := [(16, 11)]) rfl rfl rfl rfl rfl ⟨Nat.zero_le _, Nat.zero_le _⟩ dX11_restore_17 (fun h3 hw => ?_)
    refine V.aload_n (t := 11) hc dX11_restore_20 rfl rfl ?_
    refine V.gR hc gR_X11_54 (i' := 3) rfl dX11_restore_21 ?_
    refine V.aload_n (t := 11) hc dX11_restore_24 rfl rfl ?_
    refine V.gR hc gR_X11_72 (i' := 4) rfl dX11_restore_25 ?_
    refine V.callVV hc (qX5_copyFrom G l _ _ _ _ hw) mo_X5_copyFrom ml_X11_398 (by rfl) rfl rfl (as := [(15, 4)]) rfl rfl rfl rfl rfl ⟨Nat.zero_le _, Nat.zero_le _⟩ dX11_restore_28 (fun h4 hw => ?_)
    refine V.aload_n (t := 11) hc dX11_restore_31 rfl rfl ?_
    refine V.gR hc gR_X11_61 (i' := 5) rfl dX11_restore_32 ?_
    refine V.aload_n (t := 11) hc dX11_restore_35 rfl rfl ?_
    refine V.gR hc gR_X11_75 (i' := 6) rfl dX11_restore_36 ?_
    refine V.callVV hc (qX7_copyFrom G l _ _ _ _ hw) mo_X7_copyFrom ml_X11_401 (by rfl) rfl rfl (as := [(17, 6)]) rfl rfl rfl rfl rfl ⟨Nat.zero_le _, Nat.zero_le _⟩ dX11_restore_39 (fun h5 hw => ?_)
    refine V.aload_n (t := 11) hc dX11_restore_42 rfl rfl ?_
    refine V.gR hc gR_X11_78 (i' := o) rfl dX11_restore_43 ?_
    refine V.iconst hc dX11_restore_46 ?_
    refine V.aload_n (t := 11) hc dX11_restore_47 rfl rfl ?_
    refine V.gR hc gR_X11_20 (i' := o) rfl dX11_restore_48 ?_
    refine V.iconst hc dX11_restore_51 ?_
    refine V.aload_n (t := 11) hc dX11_restore_52 rfl rfl ?_
    refine V.gR hc gR_X11_20 (i' := o) rfl dX11_restore_53 ?_
    refine V.aln hc ak_46 dX11_restore_56 ?_
    obtain ⟨g7, hw⟩ := hw
    refine V.acp hc ml_X11_404 rfl ak_47 ak_46 g7 dX11_restore_57 (fun h6 e => ?_)
    replace hw := hw h6 e
    clear e
    refine V.iconst hc dX11_restore_60 ?_
    exact V.zret hc hr dX11_restore_61 (by omega) hw
  · replace hw := hw.2 c2
    refine V.iconst hc dX11_restore_7 ?_
    exact V.zret hc hr dX11_restore_8 (by omega) hw
theorem qX12_thrown (G : GG) (l : Launch) (o : Int) (h : HP) (P : Int → HP → Prop) (hw : wX12_thrown o h P) : CnI l G yX12_thrown cX12_thrown 1 (some .int) 8 [(22, o)] h P := by
  refine CnI.of (lo := [(22, o)]) (by decide) rfl rfl rfl ?_
  intro p e s m args below meth c hc hr
  have hc : VC G p (rmD 8 0) s m args meth c RX12 cX12_thrown 1 8 := hc
  refine V.aload_n (t := 12) hc dX12_thrown_0 rfl rfl ?_
  refine V.gI hc gI_X12_118 rfl dX12_thrown_1 ?_
  exact V.iret hc hr dX12_thrown_4 hw
theorem qX12_fail (G : GG) (l : Launch) (o : Int) (a1 : Int) (h : HP) (P : Int → HP → Prop) (hw : wX12_fail o a1 h P) : CnI l G yX12_fail cX12_fail 2 (some .int) 8 [(22, o), (0, a1)] h P := by
  refine CnI.of (lo := [(22, o), (0, a1)]) (by decide) rfl rfl rfl ?_
  intro p e s m args below meth c hc hr
  have hc : VC G p (rmD 8 0) s m args meth c RX12 cX12_fail 2 8 := hc
  refine V.aload_n (t := 12) hc dX12_fail_0 rfl rfl ?_
  refine V.iload_n hc dX12_fail_1 rfl rfl ?_
  refine V.pI hc pI_X12_118 rfl dX12_fail_2 (fun h1 e => ?_)
  replace hw := hw h1 e
  clear e
  refine V.iconst hc dX12_fail_5 ?_
  exact V.iret hc hr dX12_fail_6 hw
theorem qX12_isIn (G : GG) (l : Launch) (a0 : Int) (a1 : Int) (a2 : Int) (h : HP) (P : Int → HP → Prop) (hw : wX12_isIn a0 a1 a2 h P) : CnI l G yX12_isIn cX12_isIn 3 (some .boolean) 8 [(0, a0), (0, a1), (0, a2)] h P := by
  refine CnI.of (lo := [(0, a0), (0, a1), (0, a2)]) (by decide) rfl rfl rfl ?_
  intro p e s m args below meth c hc hr
  have hc : VC G p (rmD 8 0) s m args meth c RX12 cX12_isIn 3 8 := hc
  refine V.iload_n hc dX12_isIn_0 rfl rfl ?_
  refine V.iload_n hc dX12_isIn_1 rfl rfl ?_
  obtain ⟨q6, hw⟩ := hw
  have kJ8 : ∀ t5 : Int, ((a0 < a1 → t5 = 0) ∧ (¬ a0 < a1 → ((a2 < a0 → t5 = 0) ∧ (¬ a2 < a0 → t5 = 1)))) → V G p l e (rmD 8 0) s m args below meth c (MQ below (QI G P) args s 0 0 (va_Aof G)) 3 15 [(1, 0), (1, 0), (1, 0)] [(0, t5)] h 0 := by
    intro t5 he
    replace hw := hw t5 he
    clear he
    obtain ⟨g7, hw⟩ := hw
    exact V.zret hc hr dX12_isIn_15 g7 hw
  obtain ⟨g1, g2, q9⟩ := q6
  refine V.icmp_lt hc (tgt := 14) dX12_isIn_2 (by decide) g1 g2 (fun c10 => ?_) (fun c10 => ?_)
  · refine V.iconst hc dX12_isIn_14 ?_
    refine V.drop (lo' := [(1, 0), (1, 0), (1, 0)]) ⟨Or.inl rfl, Or.inl rfl, Or.inl rfl, trivial⟩ ?_
    exact kJ8 _ ⟨fun _ => rfl, (fun q => absurd c10 q)⟩
  · have q11 := q9 c10
    obtain ⟨g3, g4⟩ := q11
    refine V.iload_n hc dX12_isIn_5 rfl rfl ?_
    refine V.iload_n hc dX12_isIn_6 rfl rfl ?_
    refine V.icmp_gt hc (tgt := 14) dX12_isIn_7 (by decide) g3 g4 (fun c12 => ?_) (fun c12 => ?_)
    · refine V.iconst hc dX12_isIn_14 ?_
      refine V.drop (lo' := [(1, 0), (1, 0), (1, 0)]) ⟨Or.inl rfl, Or.inl rfl, Or.inl rfl, trivial⟩ ?_
      exact kJ8 _ ⟨(fun q => absurd q c10), fun _ => ⟨fun _ => rfl, (fun q => absurd c12 q)⟩⟩
    · refine V.iconst hc dX12_isIn_10 ?_
      refine V.goto hc (tgt := 15) dX12_isIn_11 (by decide) ?_
      refine V.drop (lo' := [(1, 0), (1, 0), (1, 0)]) ⟨Or.inl rfl, Or.inl rfl, Or.inl rfl, trivial⟩ ?_
      exact kJ8 _ ⟨(fun q => absurd q c10), fun _ => ⟨(fun q => absurd q c12), fun _ => rfl⟩⟩
theorem tX12_feed_23 {G : GG} {p : Program} {l : Launch} {e : Jvm.Env} {s : State} {m : MethodId} {args : Array Value} {below : List Frame} {meth : Method} {c : Code} {P : Int → HP → Prop} (hc : VC G p (rmD 8 0) s m args meth c RX12 cX12_feed 8 8) (hr : meth.sig.returnType = some .int) {o : Int} {a1 : Int} {a2 : Int} {a3 : Int} {a4 : Int} {a5 : Int} {K120 : HP → Prop} (hK120 : ∀  (h : HP), K120  h → V G p l e (rmD 8 0) s m args below meth c (MQ below (QI G P) args s 0 0 (va_Aof G)) 8 120 [(22, o), (1, 0), (1, 0), (1, 0), (1, 0), (1, 0), (1, 0), (1, 0)] [] h 0) : ∀ (f : Nat) (l6 : Int) (h : HP), wX12_feed_23 o a1 a2 a3 a4 a5 K120 f l6 h → V G p l e (rmD 8 0) s m args below meth c (MQ below (QI G P) args s 0 0 (va_Aof G)) 8 23 [(22, o), (0, a1), (0, a2), (0, a3), (0, a4), (0, a5), (0, l6), (1, 0)] [] h 0 := by
  intro f
  induction f with
  | zero =>
    intro l6 h hw
    exact hw.elim
  | succ f ih =>
    intro l6 h hw
    refine V.iload hc dX12_feed_23 rfl ?_
    refine V.bipush hc dX12_feed_25 (by decide) ?_
    obtain ⟨g4, hw⟩ := hw
    refine V.icmp_ge hc (tgt := 120) dX12_feed_27 (by decide) g4 (by omega) (fun c5 => ?_) (fun c5 => ?_)
    · replace hw := hw.1 c5
      refine V.drop (lo' := [(22, o), (1, 0), (1, 0), (1, 0), (1, 0), (1, 0), (1, 0), (1, 0)]) ⟨Or.inr rfl, Or.inl rfl, Or.inl rfl, Or.inl rfl, Or.inl rfl, Or.inl rfl, Or.inl rfl, Or.inr rfl, trivial⟩ ?_
      exact hK120 _ hw
    · replace hw := hw.2 c5
      refine V.iload hc dX12_feed_30 rfl ?_
      refine V.iconst hc dX12_feed_32 ?_
      obtain ⟨q11, hw⟩ := hw
      have kJ16 : ∀ t10 : Int, ((4 ≤ l6 → ((8 ≤ l6 → ((12 ≤ l6 → ((16 ≤ l6 → t10 = a5) ∧ (¬ 16 ≤ l6 → t10 = a4))) ∧ (¬ 12 ≤ l6 → t10 = a3))) ∧ (¬ 8 ≤ l6 → t10 = a2))) ∧ (¬ 4 ≤ l6 → t10 = a1)) → V G p l e (rmD 8 0) s m args below meth c (MQ below (QI G P) args s 0 0 (va_Aof G)) 8 76 [(22, o), (0, a1), (0, a2), (0, a3), (0, a4), (0, a5), (0, l6), (1, 0)] [(0, t10)] h 0 := by
        intro t10 he
        replace hw := hw t10 he
        clear he
        refine V.istore hc dX12_feed_76 rfl (lo' := [(22, o), (0, a1), (0, a2), (0, a3), (0, a4), (0, a5), (0, l6), (0, t10)]) rfl ?_
        refine V.aload_n (t := 12) hc dX12_feed_78 rfl rfl ?_
        refine V.gR hc gR_X12_49 (i' := o) rfl dX12_feed_79 ?_
        refine V.aload_n (t := 12) hc dX12_feed_82 rfl rfl ?_
        refine V.gI hc gI_X12_121 rfl dX12_feed_83 ?_
        refine V.iload hc dX12_feed_86 rfl ?_
        refine V.bipush hc dX12_feed_88 (by decide) ?_
        refine V.bipush hc dX12_feed_90 (by decide) ?_
        refine V.iload hc dX12_feed_92 rfl ?_
        refine V.iconst hc dX12_feed_94 ?_
        obtain ⟨g12, hw⟩ := hw
        refine V.irem hc g12 (by omega) dX12_feed_95 ?_
        refine V.imul hc dX12_feed_96 ?_
        refine V.isub hc dX12_feed_97 ?_
        refine V.ishr hc dX12_feed_98 ?_
        refine V.sipush hc dX12_feed_99 (by decide) ?_
        refine V.iand hc dX12_feed_102 ?_
        obtain ⟨g14, hw⟩ := hw
        refine V.ast hc ak_58 g14 dX12_feed_103 (fun h13 e => ?_)
        replace hw := hw h13 e
        clear e
        refine V.aload_n (t := 12) hc dX12_feed_104 rfl rfl ?_
        refine V.dup hc dX12_feed_105 (by simp) ?_
        refine V.gI hc gI_X12_121 rfl dX12_feed_106 ?_
        refine V.iconst hc dX12_feed_109 ?_
        refine V.iadd hc dX12_feed_110 ?_
        refine V.pI hc pI_X12_121 rfl dX12_feed_111 (fun h15 e => ?_)
        replace hw := hw h15 e
        clear e
        refine V.iinc hc dX12_feed_114 rfl rfl (lo' := [(22, o), (0, a1), (0, a2), (0, a3), (0, a4), (0, a5), (0, l6 + 1), (0, t10)]) rfl ?_
        refine V.goto hc (tgt := 23) dX12_feed_117 (by decide) ?_
        refine V.drop (lo' := [(22, o), (0, a1), (0, a2), (0, a3), (0, a4), (0, a5), (0, l6 + 1), (1, 0)]) ⟨Or.inr rfl, Or.inr rfl, Or.inr rfl, Or.inr rfl, Or.inr rfl, Or.inr rfl, Or.inr rfl, Or.inl rfl, trivial⟩ ?_
        exact ih _ _ hw
      obtain ⟨g6, q17⟩ := q11
      refine V.icmp_ge hc (tgt := 40) dX12_feed_33 (by decide) g6 (by omega) (fun c18 => ?_) (fun c18 => ?_)
      · have q19 := q17 c18
        obtain ⟨g7, q20⟩ := q19
        refine V.iload hc dX12_feed_40 rfl ?_
        refine V.bipush hc dX12_feed_42 (by decide) ?_
        refine V.icmp_ge hc (tgt := 51) dX12_feed_44 (by decide) g7 (by omega) (fun c21 => ?_) (fun c21 => ?_)
        · have q22 := q20 c21
          obtain ⟨g8, q23⟩ := q22
          refine V.iload hc dX12_feed_51 rfl ?_
          refine V.bipush hc dX12_feed_53 (by decide) ?_
          refine V.icmp_ge hc (tgt := 62) dX12_feed_55 (by decide) g8 (by omega) (fun c24 => ?_) (fun c24 => ?_)
          · have q25 := q23 c24
            have g9 := q25
            refine V.iload hc dX12_feed_62 rfl ?_
            refine V.bipush hc dX12_feed_64 (by decide) ?_
            refine V.icmp_ge hc (tgt := 74) dX12_feed_66 (by decide) g9 (by omega) (fun c26 => ?_) (fun c26 => ?_)
            · refine V.iload hc dX12_feed_74 rfl ?_
              exact kJ16 _ ⟨fun _ => ⟨fun _ => ⟨fun _ => ⟨fun _ => rfl, (fun q => absurd c26 q)⟩, (fun q => absurd c24 q)⟩, (fun q => absurd c21 q)⟩, (fun q => absurd c18 q)⟩
            · refine V.iload hc dX12_feed_69 rfl ?_
              refine V.goto hc (tgt := 76) dX12_feed_71 (by decide) ?_
              exact kJ16 _ ⟨fun _ => ⟨fun _ => ⟨fun _ => ⟨(fun q => absurd q c26), fun _ => rfl⟩, (fun q => absurd c24 q)⟩, (fun q => absurd c21 q)⟩, (fun q => absurd c18 q)⟩
          · refine V.iload_n hc dX12_feed_58 rfl rfl ?_
            refine V.goto hc (tgt := 76) dX12_feed_59 (by decide) ?_
            exact kJ16 _ ⟨fun _ => ⟨fun _ => ⟨(fun q => absurd q c24), fun _ => rfl⟩, (fun q => absurd c21 q)⟩, (fun q => absurd c18 q)⟩
        · refine V.iload_n hc dX12_feed_47 rfl rfl ?_
          refine V.goto hc (tgt := 76) dX12_feed_48 (by decide) ?_
          exact kJ16 _ ⟨fun _ => ⟨(fun q => absurd q c21), fun _ => rfl⟩, (fun q => absurd c18 q)⟩
      · refine V.iload_n hc dX12_feed_36 rfl rfl ?_
        refine V.goto hc (tgt := 76) dX12_feed_37 (by decide) ?_
        exact kJ16 _ ⟨(fun q => absurd q c18), fun _ => rfl⟩
theorem qX12_feed (G : GG) (l : Launch) (o : Int) (a1 : Int) (a2 : Int) (a3 : Int) (a4 : Int) (a5 : Int) (h : HP) (P : Int → HP → Prop) (hw : wX12_feed o a1 a2 a3 a4 a5 h P) : CnI l G yX12_feed cX12_feed 8 (some .int) 8 [(22, o), (0, a1), (0, a2), (0, a3), (0, a4), (0, a5)] h P := by
  refine CnI.of (lo := [(22, o), (0, a1), (0, a2), (0, a3), (0, a4), (0, a5), (1, 0), (1, 0)]) (by decide) rfl rfl rfl ?_
  intro p e s m args below meth c hc hr
  have hc : VC G p (rmD 8 0) s m args meth c RX12 cX12_feed 8 8 := hc
  refine V.aload_n (t := 12) hc dX12_feed_0 rfl rfl ?_
  refine V.iconst hc dX12_feed_1 ?_
  refine V.pI hc pI_X12_118 rfl dX12_feed_2 (fun h1 e => ?_)
  replace hw := hw h1 e
  clear e
  refine V.aload_n (t := 12) hc dX12_feed_5 rfl rfl ?_
  refine V.gI hc gI_X12_121 rfl dX12_feed_6 ?_
  refine V.bipush hc dX12_feed_9 (by decide) ?_
  refine V.iadd hc dX12_feed_11 ?_
  refine V.sipush hc dX12_feed_12 (by decide) ?_
  obtain ⟨g2, hw⟩ := hw
  refine V.icmp_le hc (tgt := 20) dX12_feed_15 (by decide) g2 (by omega) (fun c3 => ?_) (fun c3 => ?_)
  · replace hw := hw.1 c3
    refine V.iconst hc dX12_feed_20 ?_
    refine V.istore hc dX12_feed_21 rfl (lo' := [(22, o), (0, a1), (0, a2), (0, a3), (0, a4), (0, a5), (0, 0), (1, 0)]) rfl ?_
    obtain ⟨f27, hw⟩ := hw
    refine tX12_feed_23 hc hr ?_ f27 _ _ hw
    · intro h28 hw
      refine V.aload_n (t := 12) hc dX12_feed_120 rfl rfl ?_
      refine V.gI hc gI_X12_121 rfl dX12_feed_121 ?_
      exact V.iret hc hr dX12_feed_124 hw
  · replace hw := hw.2 c3
    refine V.iconst hc dX12_feed_18 ?_
    exact V.iret hc hr dX12_feed_19 hw
theorem qX12_byteAt (G : GG) (l : Launch) (o : Int) (a1 : Int) (h : HP) (P : Int → HP → Prop) (hw : wX12_byteAt o a1 h P) : CnI l G yX12_byteAt cX12_byteAt 2 (some .int) 8 [(22, o), (0, a1)] h P := by
  refine CnI.of (lo := [(22, o), (0, a1)]) (by decide) rfl rfl rfl ?_
  intro p e s m args below meth c hc hr
  have hc : VC G p (rmD 8 0) s m args meth c RX12 cX12_byteAt 2 8 := hc
  refine V.iload_n hc dX12_byteAt_0 rfl rfl ?_
  refine V.aload_n (t := 12) hc dX12_byteAt_1 rfl rfl ?_
  refine V.gI hc gI_X12_124 rfl dX12_byteAt_2 ?_
  obtain ⟨q5, hw⟩ := hw
  have kJ6 : ∀ t4 : Int, ((h 12 o 14 ≤ a1 → t4 = (-1)) ∧ (¬ h 12 o 14 ≤ a1 → t4 = h 58 o a1)) → V G p l e (rmD 8 0) s m args below meth c (MQ below (QI G P) args s 0 0 (va_Aof G)) 2 18 [(1, 0), (1, 0)] [(0, t4)] h 0 := by
    intro t4 he
    replace hw := hw t4 he
    clear he
    exact V.iret hc hr dX12_byteAt_18 hw
  obtain ⟨g1, g2, q7⟩ := q5
  refine V.icmp_ge hc (tgt := 17) dX12_byteAt_5 (by decide) g1 g2 (fun c8 => ?_) (fun c8 => ?_)
  · refine V.iconst hc dX12_byteAt_17 ?_
    refine V.drop (lo' := [(1, 0), (1, 0)]) ⟨Or.inl rfl, Or.inl rfl, trivial⟩ ?_
    exact kJ6 _ ⟨fun _ => rfl, (fun q => absurd c8 q)⟩
  · have q9 := q7 c8
    have g3 := q9
    refine V.aload_n (t := 12) hc dX12_byteAt_8 rfl rfl ?_
    refine V.gR hc gR_X12_49 (i' := o) rfl dX12_byteAt_9 ?_
    refine V.iload_n hc dX12_byteAt_12 rfl rfl ?_
    refine V.ald hc ak_58 g3 dX12_byteAt_13 ?_
    refine V.goto hc (tgt := 18) dX12_byteAt_14 (by decide) ?_
    refine V.drop (lo' := [(1, 0), (1, 0)]) ⟨Or.inl rfl, Or.inl rfl, trivial⟩ ?_
    exact kJ6 _ ⟨(fun q => absurd q c8), fun _ => rfl⟩
theorem qX12_isLetter (G : GG) (l : Launch) (a0 : Int) (h : HP) (P : Int → HP → Prop) (hw : wX12_isLetter a0 h P) : CnI l G yX12_isLetter cX12_isLetter 1 (some .boolean) 8 [(0, a0)] h P := by
  refine CnI.of (lo := [(0, a0)]) (by decide) rfl rfl rfl ?_
  intro p e s m args below meth c hc hr
  have hc : VC G p (rmD 8 0) s m args meth c RX12 cX12_isLetter 1 8 := hc
  refine V.iload_n hc dX12_isLetter_0 rfl rfl ?_
  refine V.bipush hc dX12_isLetter_1 (by decide) ?_
  obtain ⟨q4, hw⟩ := hw
  have kJ6 : ∀ t3 : Int, ((a0 < 97 → t3 = 0) ∧ (¬ a0 < 97 → ((122 < a0 → t3 = 0) ∧ (¬ 122 < a0 → t3 = 1)))) → V G p l e (rmD 8 0) s m args below meth c (MQ below (QI G P) args s 0 0 (va_Aof G)) 1 17 [(1, 0)] [(0, t3)] h 0 := by
    intro t3 he
    replace hw := hw t3 he
    clear he
    obtain ⟨g5, hw⟩ := hw
    exact V.zret hc hr dX12_isLetter_17 g5 hw
  obtain ⟨g1, q7⟩ := q4
  refine V.icmp_lt hc (tgt := 16) dX12_isLetter_3 (by decide) g1 (by omega) (fun c8 => ?_) (fun c8 => ?_)
  · refine V.iconst hc dX12_isLetter_16 ?_
    refine V.drop (lo' := [(1, 0)]) ⟨Or.inl rfl, trivial⟩ ?_
    exact kJ6 _ ⟨fun _ => rfl, (fun q => absurd c8 q)⟩
  · have q9 := q7 c8
    have g2 := q9
    refine V.iload_n hc dX12_isLetter_6 rfl rfl ?_
    refine V.bipush hc dX12_isLetter_7 (by decide) ?_
    refine V.icmp_gt hc (tgt := 16) dX12_isLetter_9 (by decide) g2 (by omega) (fun c10 => ?_) (fun c10 => ?_)
    · refine V.iconst hc dX12_isLetter_16 ?_
      refine V.drop (lo' := [(1, 0)]) ⟨Or.inl rfl, trivial⟩ ?_
      exact kJ6 _ ⟨(fun q => absurd q c8), fun _ => ⟨fun _ => rfl, (fun q => absurd c10 q)⟩⟩
    · refine V.iconst hc dX12_isLetter_12 ?_
      refine V.goto hc (tgt := 17) dX12_isLetter_13 (by decide) ?_
      refine V.drop (lo' := [(1, 0)]) ⟨Or.inl rfl, trivial⟩ ?_
      exact kJ6 _ ⟨(fun q => absurd q c8), fun _ => ⟨(fun q => absurd q c10), fun _ => rfl⟩⟩
theorem qX12_isDigit (G : GG) (l : Launch) (a0 : Int) (h : HP) (P : Int → HP → Prop) (hw : wX12_isDigit a0 h P) : CnI l G yX12_isDigit cX12_isDigit 1 (some .boolean) 8 [(0, a0)] h P := by
  refine CnI.of (lo := [(0, a0)]) (by decide) rfl rfl rfl ?_
  intro p e s m args below meth c hc hr
  have hc : VC G p (rmD 8 0) s m args meth c RX12 cX12_isDigit 1 8 := hc
  refine V.iload_n hc dX12_isDigit_0 rfl rfl ?_
  refine V.bipush hc dX12_isDigit_1 (by decide) ?_
  obtain ⟨q4, hw⟩ := hw
  have kJ6 : ∀ t3 : Int, ((a0 < 48 → t3 = 0) ∧ (¬ a0 < 48 → ((57 < a0 → t3 = 0) ∧ (¬ 57 < a0 → t3 = 1)))) → V G p l e (rmD 8 0) s m args below meth c (MQ below (QI G P) args s 0 0 (va_Aof G)) 1 17 [(1, 0)] [(0, t3)] h 0 := by
    intro t3 he
    replace hw := hw t3 he
    clear he
    obtain ⟨g5, hw⟩ := hw
    exact V.zret hc hr dX12_isDigit_17 g5 hw
  obtain ⟨g1, q7⟩ := q4
  refine V.icmp_lt hc (tgt := 16) dX12_isDigit_3 (by decide) g1 (by omega) (fun c8 => ?_) (fun c8 => ?_)
  · refine V.iconst hc dX12_isDigit_16 ?_
    refine V.drop (lo' := [(1, 0)]) ⟨Or.inl rfl, trivial⟩ ?_
    exact kJ6 _ ⟨fun _ => rfl, (fun q => absurd c8 q)⟩
  · have q9 := q7 c8
    have g2 := q9
    refine V.iload_n hc dX12_isDigit_6 rfl rfl ?_
    refine V.bipush hc dX12_isDigit_7 (by decide) ?_
    refine V.icmp_gt hc (tgt := 16) dX12_isDigit_9 (by decide) g2 (by omega) (fun c10 => ?_) (fun c10 => ?_)
    · refine V.iconst hc dX12_isDigit_16 ?_
      refine V.drop (lo' := [(1, 0)]) ⟨Or.inl rfl, trivial⟩ ?_
      exact kJ6 _ ⟨(fun q => absurd q c8), fun _ => ⟨fun _ => rfl, (fun q => absurd c10 q)⟩⟩
    · refine V.iconst hc dX12_isDigit_12 ?_
      refine V.goto hc (tgt := 17) dX12_isDigit_13 (by decide) ?_
      refine V.drop (lo' := [(1, 0)]) ⟨Or.inl rfl, trivial⟩ ?_
      exact kJ6 _ ⟨(fun q => absurd q c8), fun _ => ⟨(fun q => absurd q c10), fun _ => rfl⟩⟩
theorem tX12_stepOn_26 {G : GG} {p : Program} {l : Launch} {e : Jvm.Env} {s : State} {m : MethodId} {args : Array Value} {below : List Frame} {meth : Method} {c : Code} {P : HP → Prop} (hc : VC G p (rmD 9 0) s m args meth c RX12 cX12_stepOn 2 9) (hr : meth.sig.returnType = none) {o : Int} {h : HP} {K0 : HP → Prop} (hK0 : ∀  (h : HP), K0  h → V G p l e (rmD 9 0) s m args below meth c (MQ below (QV G P) args s 0 0 (va_Aof G)) 2 0 [(22, o), (1, 0)] [] h 0) (hw : wX12_stepOn_26 o K0 h) : V G p l e (rmD 9 0) s m args below meth c (MQ below (QV G P) args s 0 0 (va_Aof G)) 2 26 [(22, o), (1, 0)] [] h 0 := by
  refine V.aload_n (t := 12) hc dX12_stepOn_26 rfl rfl ?_
  refine V.dup hc dX12_stepOn_27 (by simp) ?_
  refine V.gI hc gI_X12_127 rfl dX12_stepOn_28 ?_
  refine V.iconst hc dX12_stepOn_31 ?_
  refine V.iadd hc dX12_stepOn_32 ?_
  refine V.pI hc pI_X12_127 rfl dX12_stepOn_33 (fun h5 e => ?_)
  replace hw := hw h5 e
  clear e
  refine V.goto hc (tgt := 0) dX12_stepOn_36 (by decide) ?_
  exact hK0 _ hw
theorem tX12_stepOn_0 {G : GG} {p : Program} {l : Launch} {e : Jvm.Env} {s : State} {m : MethodId} {args : Array Value} {below : List Frame} {meth : Method} {c : Code} {P : HP → Prop} (hc : VC G p (rmD 9 0) s m args meth c RX12 cX12_stepOn 2 9) (hr : meth.sig.returnType = none) {o : Int} {K39 : HP → Prop} (hK39 : ∀  (h : HP), K39  h → V G p l e (rmD 9 0) s m args below meth c (MQ below (QV G P) args s 0 0 (va_Aof G)) 2 39 [(22, o), (1, 0)] [] h 0) : ∀ (f : Nat)  (h : HP), wX12_stepOn_0 o K39 f  h → V G p l e (rmD 9 0) s m args below meth c (MQ below (QV G P) args s 0 0 (va_Aof G)) 2 0 [(22, o), (1, 0)] [] h 0 := by
  intro f
  induction f with
  | zero =>
    intro h hw
    exact hw.elim
  | succ f ih =>
    intro h hw
    refine V.aload_n (t := 12) hc dX12_stepOn_0 rfl rfl ?_
    refine V.aload_n (t := 12) hc dX12_stepOn_1 rfl rfl ?_
    refine V.gI hc gI_X12_127 rfl dX12_stepOn_2 ?_
    refine V.callVI hc (qX12_byteAt G l _ _ _ _ hw) mo_X12_byteAt ml_X12_130 (by rfl) rfl rfl (as := [(0, h 12 o 13)]) rfl rfl rfl rfl rfl ⟨Nat.zero_le _, Nat.zero_le _⟩ dX12_stepOn_5 (fun x2 h1 hw => ?_)
    refine V.bipush hc dX12_stepOn_8 (by decide) ?_
    obtain ⟨g3, hw⟩ := hw
    refine V.icmp_eq hc (tgt := 26) dX12_stepOn_10 (by decide) g3 (by omega) (fun c4 => ?_) (fun c4 => ?_)
    · replace hw := hw.1 c4
      exact tX12_stepOn_26 hc hr (fun hy hw => by exact ih _ hw) hw
    · replace hw := hw.2 c4
      refine V.aload_n (t := 12) hc dX12_stepOn_13 rfl rfl ?_
      refine V.aload_n (t := 12) hc dX12_stepOn_14 rfl rfl ?_
      refine V.gI hc gI_X12_127 rfl dX12_stepOn_15 ?_
      refine V.callVI hc (qX12_byteAt G l _ _ _ _ hw) mo_X12_byteAt ml_X12_130 (by rfl) rfl rfl (as := [(0, h1 12 o 13)]) rfl rfl rfl rfl rfl ⟨Nat.zero_le _, Nat.zero_le _⟩ dX12_stepOn_18 (fun x7 h6 hw => ?_)
      refine V.bipush hc dX12_stepOn_21 (by decide) ?_
      obtain ⟨g8, hw⟩ := hw
      refine V.icmp_ne hc (tgt := 39) dX12_stepOn_23 (by decide) g8 (by omega) (fun c9 => ?_) (fun c9 => ?_)
      · replace hw := hw.1 c9
        exact hK39 _ hw
      · replace hw := hw.2 c9
        exact tX12_stepOn_26 hc hr (fun hy hw => by exact ih _ hw) hw
theorem tX12_stepOn_123 {G : GG} {p : Program} {l : Launch} {e : Jvm.Env} {s : State} {m : MethodId} {args : Array Value} {below : List Frame} {meth : Method} {c : Code} {P : HP → Prop} (hc : VC G p (rmD 9 0) s m args meth c RX12 cX12_stepOn 2 9) (hr : meth.sig.returnType = none) {o : Int} {K178 : HP → Prop} (hK178 : ∀  (h : HP), K178  h → V G p l e (rmD 9 0) s m args below meth c (MQ below (QV G P) args s 0 0 (va_Aof G)) 2 178 [(22, o), (1, 0)] [] h 0) : ∀ (f : Nat)  (h : HP), wX12_stepOn_123 o K178 f  h → V G p l e (rmD 9 0) s m args below meth c (MQ below (QV G P) args s 0 0 (va_Aof G)) 2 123 [(22, o), (1, 0)] [] h 0 := by
  intro f
  induction f with
  | zero =>
    intro h hw
    exact hw.elim
  | succ f ih =>
    intro h hw
    refine V.aload_n (t := 12) hc dX12_stepOn_123 rfl rfl ?_
    refine V.aload_n (t := 12) hc dX12_stepOn_124 rfl rfl ?_
    refine V.gI hc gI_X12_127 rfl dX12_stepOn_125 ?_
    refine V.callVI hc (qX12_byteAt G l _ _ _ _ hw) mo_X12_byteAt ml_X12_130 (by rfl) rfl rfl (as := [(0, h 12 o 13)]) rfl rfl rfl rfl rfl ⟨Nat.zero_le _, Nat.zero_le _⟩ dX12_stepOn_128 (fun x35 h34 hw => ?_)
    refine V.callSI hc (qX12_isDigit G l _ _ _ hw) mo_X12_isDigit ml_X12_144 (as := [(0, x35)]) rfl rfl rfl rfl rfl ⟨Nat.zero_le _, Nat.zero_le _⟩ dX12_stepOn_131 (fun x37 h36 hw => ?_)
    obtain ⟨g38, hw⟩ := hw
    refine V.if_eq hc (tgt := 178) dX12_stepOn_134 (by decide) g38 (fun c39 => ?_) (fun c39 => ?_)
    · replace hw := hw.1 c39
      exact hK178 _ hw
    · replace hw := hw.2 c39
      refine V.aload_n (t := 12) hc dX12_stepOn_137 rfl rfl ?_
      refine V.ldc hc (x := 100000) kl_X12_150 dX12_stepOn_138 ?_
      refine V.bipush hc dX12_stepOn_140 (by decide) ?_
      refine V.aload_n (t := 12) hc dX12_stepOn_142 rfl rfl ?_
      refine V.gI hc gI_X12_147 rfl dX12_stepOn_143 ?_
      refine V.imul hc dX12_stepOn_146 ?_
      refine V.aload_n (t := 12) hc dX12_stepOn_147 rfl rfl ?_
      refine V.aload_n (t := 12) hc dX12_stepOn_148 rfl rfl ?_
      refine V.gI hc gI_X12_127 rfl dX12_stepOn_149 ?_
      refine V.callVI hc (qX12_byteAt G l _ _ _ _ hw) mo_X12_byteAt ml_X12_130 (by rfl) rfl rfl (as := [(0, h36 12 o 13)]) rfl rfl rfl rfl rfl ⟨Nat.zero_le _, Nat.zero_le _⟩ dX12_stepOn_152 (fun x41 h40 hw => ?_)
      refine V.iadd hc dX12_stepOn_155 ?_
      refine V.bipush hc dX12_stepOn_156 (by decide) ?_
      refine V.isub hc dX12_stepOn_158 ?_
      obtain ⟨g42, hw⟩ := hw
      refine V.mmin hc ml_X12_151 rfl rfl (by omega) g42 dX12_stepOn_159 ?_
      refine V.pI hc pI_X12_147 rfl dX12_stepOn_162 (fun h43 e => ?_)
      replace hw := hw h43 e
      clear e
      refine V.aload_n (t := 12) hc dX12_stepOn_165 rfl rfl ?_
      refine V.dup hc dX12_stepOn_166 (by simp) ?_
      refine V.gI hc gI_X12_127 rfl dX12_stepOn_167 ?_
      refine V.iconst hc dX12_stepOn_170 ?_
      refine V.iadd hc dX12_stepOn_171 ?_
      refine V.pI hc pI_X12_127 rfl dX12_stepOn_172 (fun h44 e => ?_)
      replace hw := hw h44 e
      clear e
      refine V.goto hc (tgt := 123) dX12_stepOn_175 (by decide) ?_
      exact ih _ hw
theorem tX12_stepOn_76 {G : GG} {p : Program} {l : Launch} {e : Jvm.Env} {s : State} {m : MethodId} {args : Array Value} {below : List Frame} {meth : Method} {c : Code} {P : HP → Prop} (hc : VC G p (rmD 9 0) s m args meth c RX12 cX12_stepOn 2 9) (hr : meth.sig.returnType = none) {o : Int} {K103 : HP → Prop} (hK103 : ∀  (h : HP), K103  h → V G p l e (rmD 9 0) s m args below meth c (MQ below (QV G P) args s 0 0 (va_Aof G)) 2 103 [(22, o), (1, 0)] [] h 0) : ∀ (f : Nat)  (h : HP), wX12_stepOn_76 o K103 f  h → V G p l e (rmD 9 0) s m args below meth c (MQ below (QV G P) args s 0 0 (va_Aof G)) 2 76 [(22, o), (1, 0)] [] h 0 := by
  intro f
  induction f with
  | zero =>
    intro h hw
    exact hw.elim
  | succ f ih =>
    intro h hw
    refine V.aload_n (t := 12) hc dX12_stepOn_76 rfl rfl ?_
    refine V.aload_n (t := 12) hc dX12_stepOn_77 rfl rfl ?_
    refine V.gI hc gI_X12_127 rfl dX12_stepOn_78 ?_
    refine V.callVI hc (qX12_byteAt G l _ _ _ _ hw) mo_X12_byteAt ml_X12_130 (by rfl) rfl rfl (as := [(0, h 12 o 13)]) rfl rfl rfl rfl rfl ⟨Nat.zero_le _, Nat.zero_le _⟩ dX12_stepOn_81 (fun x50 h49 hw => ?_)
    refine V.callSI hc (qX12_isLetter G l _ _ _ hw) mo_X12_isLetter ml_X12_140 (as := [(0, x50)]) rfl rfl rfl rfl rfl ⟨Nat.zero_le _, Nat.zero_le _⟩ dX12_stepOn_84 (fun x52 h51 hw => ?_)
    obtain ⟨g53, hw⟩ := hw
    refine V.if_eq hc (tgt := 103) dX12_stepOn_87 (by decide) g53 (fun c54 => ?_) (fun c54 => ?_)
    · replace hw := hw.1 c54
      exact hK103 _ hw
    · replace hw := hw.2 c54
      refine V.aload_n (t := 12) hc dX12_stepOn_90 rfl rfl ?_
      refine V.dup hc dX12_stepOn_91 (by simp) ?_
      refine V.gI hc gI_X12_127 rfl dX12_stepOn_92 ?_
      refine V.iconst hc dX12_stepOn_95 ?_
      refine V.iadd hc dX12_stepOn_96 ?_
      refine V.pI hc pI_X12_127 rfl dX12_stepOn_97 (fun h55 e => ?_)
      replace hw := hw h55 e
      clear e
      refine V.goto hc (tgt := 76) dX12_stepOn_100 (by decide) ?_
      exact ih _ hw
theorem qX12_stepOn (G : GG) (l : Launch) (o : Int) (h : HP) (P : HP → Prop) (hw : wX12_stepOn o h P) : CnV l G yX12_stepOn cX12_stepOn 2 9 [(22, o)] h P := by
  refine CnV.of (lo := [(22, o), (1, 0)]) (by decide) rfl rfl rfl ?_
  intro p e s m args below meth c hc hr
  have hc : VC G p (rmD 9 0) s m args meth c RX12 cX12_stepOn 2 9 := hc
  obtain ⟨f10, hw⟩ := hw
  refine tX12_stepOn_0 hc hr ?_ f10 _ hw
  · intro h11 hw
    refine V.aload_n (t := 12) hc dX12_stepOn_39 rfl rfl ?_
    refine V.aload_n (t := 12) hc dX12_stepOn_40 rfl rfl ?_
    refine V.gI hc gI_X12_127 rfl dX12_stepOn_41 ?_
    refine V.pI hc pI_X12_134 rfl dX12_stepOn_44 (fun h12 e => ?_)
    replace hw := hw h12 e
    clear e
    refine V.aload_n (t := 12) hc dX12_stepOn_47 rfl rfl ?_
    refine V.aload_n (t := 12) hc dX12_stepOn_48 rfl rfl ?_
    refine V.gI hc gI_X12_127 rfl dX12_stepOn_49 ?_
    refine V.callVI hc (qX12_byteAt G l _ _ _ _ hw) mo_X12_byteAt ml_X12_130 (by rfl) rfl rfl (as := [(0, h12 12 o 13)]) rfl rfl rfl rfl rfl ⟨Nat.zero_le _, Nat.zero_le _⟩ dX12_stepOn_52 (fun x14 h13 hw => ?_)
    refine V.istore_n hc dX12_stepOn_55 rfl rfl (lo' := [(22, o), (0, x14)]) rfl ?_
    refine V.iload_n hc dX12_stepOn_56 rfl rfl ?_
    refine V.iconst hc dX12_stepOn_57 ?_
    obtain ⟨g15, hw⟩ := hw
    refine V.icmp_ne hc (tgt := 69) dX12_stepOn_58 (by decide) g15 (by omega) (fun c16 => ?_) (fun c16 => ?_)
    · replace hw := hw.1 c16
      refine V.iload_n hc dX12_stepOn_69 rfl rfl ?_
      refine V.callSI hc (qX12_isLetter G l _ _ _ hw) mo_X12_isLetter ml_X12_140 (as := [(0, x14)]) rfl rfl rfl rfl rfl ⟨Nat.zero_le _, Nat.zero_le _⟩ dX12_stepOn_70 (fun x18 h17 hw => ?_)
      obtain ⟨g19, hw⟩ := hw
      refine V.if_eq hc (tgt := 111) dX12_stepOn_73 (by decide) g19 (fun c20 => ?_) (fun c20 => ?_)
      · replace hw := hw.1 c20
        refine V.iload_n hc dX12_stepOn_111 rfl rfl ?_
        refine V.callSI hc (qX12_isDigit G l _ _ _ hw) mo_X12_isDigit ml_X12_144 (as := [(0, x14)]) rfl rfl rfl rfl rfl ⟨Nat.zero_le _, Nat.zero_le _⟩ dX12_stepOn_112 (fun x22 h21 hw => ?_)
        obtain ⟨g23, hw⟩ := hw
        refine V.if_eq hc (tgt := 186) dX12_stepOn_115 (by decide) g23 (fun c24 => ?_) (fun c24 => ?_)
        · replace hw := hw.1 c24
          refine V.aload_n (t := 12) hc dX12_stepOn_186 rfl rfl ?_
          refine V.dup hc dX12_stepOn_187 (by simp) ?_
          refine V.gI hc gI_X12_127 rfl dX12_stepOn_188 ?_
          refine V.iconst hc dX12_stepOn_191 ?_
          refine V.iadd hc dX12_stepOn_192 ?_
          refine V.pI hc pI_X12_127 rfl dX12_stepOn_193 (fun h25 e => ?_)
          replace hw := hw h25 e
          clear e
          refine V.aload_n (t := 12) hc dX12_stepOn_196 rfl rfl ?_
          refine V.iload_n hc dX12_stepOn_197 rfl rfl ?_
          refine V.bipush hc dX12_stepOn_198 (by decide) ?_
          obtain ⟨q28, hw⟩ := hw
          have kJ31 : ∀ t27 : Int, ((¬ x14 = 59 → t27 = 4) ∧ (x14 = 59 → t27 = 3)) → V G p l e (rmD 9 0) s m args below meth c (MQ below (QV G P) args s 0 0 (va_Aof G)) 2 208 [(22, o), (1, 0)] [(0, t27), (22, o)] h25 0 := by
            intro t27 he
            replace hw := hw t27 he
            clear he
            refine V.pI hc pI_X12_137 rfl dX12_stepOn_208 (fun h29 e => ?_)
            replace hw := hw h29 e
            clear e
            refine V.aload_n (t := 12) hc dX12_stepOn_211 rfl rfl ?_
            refine V.aload_n (t := 12) hc dX12_stepOn_212 rfl rfl ?_
            refine V.gI hc gI_X12_127 rfl dX12_stepOn_213 ?_
            refine V.pI hc pI_X12_157 rfl dX12_stepOn_216 (fun h30 e => ?_)
            replace hw := hw h30 e
            clear e
            exact V.vret hc hr dX12_stepOn_219 hw
          have g26 := q28
          refine V.icmp_ne hc (tgt := 207) dX12_stepOn_200 (by decide) g26 (by omega) (fun c32 => ?_) (fun c32 => ?_)
          · refine V.iconst hc dX12_stepOn_207 ?_
            refine V.drop (lo' := [(22, o), (1, 0)]) ⟨Or.inr rfl, Or.inl rfl, trivial⟩ ?_
            exact kJ31 _ ⟨fun _ => rfl, (fun q => absurd q c32)⟩
          · refine V.iconst hc dX12_stepOn_203 ?_
            refine V.goto hc (tgt := 208) dX12_stepOn_204 (by decide) ?_
            refine V.drop (lo' := [(22, o), (1, 0)]) ⟨Or.inr rfl, Or.inl rfl, trivial⟩ ?_
            exact kJ31 _ ⟨(fun q => absurd c32 q), fun _ => rfl⟩
        · replace hw := hw.2 c24
          refine V.aload_n (t := 12) hc dX12_stepOn_118 rfl rfl ?_
          refine V.iconst hc dX12_stepOn_119 ?_
          refine V.pI hc pI_X12_147 rfl dX12_stepOn_120 (fun h33 e => ?_)
          replace hw := hw h33 e
          clear e
          obtain ⟨f45, hw⟩ := hw
          refine V.drop (lo' := [(22, o), (1, 0)]) ⟨Or.inr rfl, Or.inl rfl, trivial⟩ ?_
          refine tX12_stepOn_123 hc hr ?_ f45 _ hw
          · intro h46 hw
            refine V.aload_n (t := 12) hc dX12_stepOn_178 rfl rfl ?_
            refine V.iconst hc dX12_stepOn_179 ?_
            refine V.pI hc pI_X12_137 rfl dX12_stepOn_180 (fun h47 e => ?_)
            replace hw := hw h47 e
            clear e
            refine V.goto hc (tgt := 211) dX12_stepOn_183 (by decide) ?_
            refine V.aload_n (t := 12) hc dX12_stepOn_211 rfl rfl ?_
            refine V.aload_n (t := 12) hc dX12_stepOn_212 rfl rfl ?_
            refine V.gI hc gI_X12_127 rfl dX12_stepOn_213 ?_
            refine V.pI hc pI_X12_157 rfl dX12_stepOn_216 (fun h48 e => ?_)
            replace hw := hw h48 e
            clear e
            exact V.vret hc hr dX12_stepOn_219 hw
      · replace hw := hw.2 c20
        obtain ⟨f56, hw⟩ := hw
        refine V.drop (lo' := [(22, o), (1, 0)]) ⟨Or.inr rfl, Or.inl rfl, trivial⟩ ?_
        refine tX12_stepOn_76 hc hr ?_ f56 _ hw
        · intro h57 hw
          refine V.aload_n (t := 12) hc dX12_stepOn_103 rfl rfl ?_
          refine V.iconst hc dX12_stepOn_104 ?_
          refine V.pI hc pI_X12_137 rfl dX12_stepOn_105 (fun h58 e => ?_)
          replace hw := hw h58 e
          clear e
          refine V.goto hc (tgt := 211) dX12_stepOn_108 (by decide) ?_
          refine V.aload_n (t := 12) hc dX12_stepOn_211 rfl rfl ?_
          refine V.aload_n (t := 12) hc dX12_stepOn_212 rfl rfl ?_
          refine V.gI hc gI_X12_127 rfl dX12_stepOn_213 ?_
          refine V.pI hc pI_X12_157 rfl dX12_stepOn_216 (fun h59 e => ?_)
          replace hw := hw h59 e
          clear e
          exact V.vret hc hr dX12_stepOn_219 hw
    · replace hw := hw.2 c16
      refine V.aload_n (t := 12) hc dX12_stepOn_61 rfl rfl ?_
      refine V.iconst hc dX12_stepOn_62 ?_
      refine V.pI hc pI_X12_137 rfl dX12_stepOn_63 (fun h60 e => ?_)
      replace hw := hw h60 e
      clear e
      refine V.goto hc (tgt := 211) dX12_stepOn_66 (by decide) ?_
      refine V.aload_n (t := 12) hc dX12_stepOn_211 rfl rfl ?_
      refine V.aload_n (t := 12) hc dX12_stepOn_212 rfl rfl ?_
      refine V.gI hc gI_X12_127 rfl dX12_stepOn_213 ?_
      refine V.pI hc pI_X12_157 rfl dX12_stepOn_216 (fun h61 e => ?_)
      replace hw := hw h61 e
      clear e
      exact V.vret hc hr dX12_stepOn_219 hw
theorem qX12_wrong (G : GG) (l : Launch) (o : Int) (a1 : Int) (h : HP) (P : HP → Prop) (hw : wX12_wrong o a1 h P) : CnV l G yX12_wrong cX12_wrong 2 8 [(22, o), (0, a1)] h P := by
  refine CnV.of (lo := [(22, o), (0, a1)]) (by decide) rfl rfl rfl ?_
  intro p e s m args below meth c hc hr
  have hc : VC G p (rmD 8 0) s m args meth c RX12 cX12_wrong 2 8 := hc
  refine V.aload_n (t := 12) hc dX12_wrong_0 rfl rfl ?_
  refine V.gI hc gI_X12_160 rfl dX12_wrong_1 ?_
  obtain ⟨g1, hw⟩ := hw
  refine V.if_eq hc (tgt := 8) dX12_wrong_4 (by decide) g1 (fun c2 => ?_) (fun c2 => ?_)
  · replace hw := hw.1 c2
    refine V.aload_n (t := 12) hc dX12_wrong_8 rfl rfl ?_
    refine V.iload_n hc dX12_wrong_9 rfl rfl ?_
    refine V.pI hc pI_X12_160 rfl dX12_wrong_10 (fun h3 e => ?_)
    replace hw := hw h3 e
    clear e
    refine V.aload_n (t := 12) hc dX12_wrong_13 rfl rfl ?_
    refine V.aload_n (t := 12) hc dX12_wrong_14 rfl rfl ?_
    refine V.gI hc gI_X12_134 rfl dX12_wrong_15 ?_
    refine V.pI hc pI_X12_163 rfl dX12_wrong_18 (fun h4 e => ?_)
    replace hw := hw h4 e
    clear e
    exact V.vret hc hr dX12_wrong_21 hw
  · replace hw := hw.2 c2
    exact V.vret hc hr dX12_wrong_7 hw
theorem tX12_is_39 {G : GG} {p : Program} {l : Launch} {e : Jvm.Env} {s : State} {m : MethodId} {args : Array Value} {below : List Frame} {meth : Method} {c : Code} {P : Int → HP → Prop} (hc : VC G p (rmD 8 0) s m args meth c RX12 cX12_is 4 8) (hr : meth.sig.returnType = some .boolean) {o : Int} {s1 : Int} {K82 : Int → HP → Prop} (hK82 : ∀ (x2 : Int) (h : HP), K82 x2 h → V G p l e (rmD 8 0) s m args below meth c (MQ below (QI G P) args s 0 0 (va_Aof G)) 4 82 [(1, 0), (1, 0), (0, x2), (1, 0)] [] h 0) : ∀ (f : Nat) (l2 : Int) (l3 : Int) (h : HP), wX12_is_39 o s1 K82 f l2 l3 h → V G p l e (rmD 8 0) s m args below meth c (MQ below (QI G P) args s 0 0 (va_Aof G)) 4 39 [(22, o), (6, s1), (0, l2), (0, l3)] [] h 0 := by
  intro f
  induction f with
  | zero =>
    intro l2 l3 h hw
    exact hw.elim
  | succ f ih =>
    intro l2 l3 h hw
    refine V.iload_n hc dX12_is_39 rfl rfl ?_
    obtain ⟨g3, hw⟩ := hw
    refine V.if_eq hc (tgt := 82) dX12_is_40 (by decide) g3 (fun c4 => ?_) (fun c4 => ?_)
    · replace hw := hw.1 c4
      refine V.drop (lo' := [(1, 0), (1, 0), (0, l2), (1, 0)]) ⟨Or.inl rfl, Or.inl rfl, Or.inr rfl, Or.inl rfl, trivial⟩ ?_
      exact hK82 _ _ hw
    · replace hw := hw.2 c4
      refine V.iload_n hc dX12_is_43 rfl rfl ?_
      refine V.aloadS_n hc dX12_is_44 rfl rfl ?_
      refine V.sLen hc ml_X12_166 rfl rfl dX12_is_45 ?_
      obtain ⟨g5, hw⟩ := hw
      obtain ⟨g6, hw⟩ := hw
      refine V.icmp_ge hc (tgt := 82) dX12_is_48 (by decide) g5 g6 (fun c7 => ?_) (fun c7 => ?_)
      · replace hw := hw.1 c7
        refine V.drop (lo' := [(1, 0), (1, 0), (0, l2), (1, 0)]) ⟨Or.inl rfl, Or.inl rfl, Or.inr rfl, Or.inl rfl, trivial⟩ ?_
        exact hK82 _ _ hw
      · replace hw := hw.2 c7
        refine V.aloadS_n hc dX12_is_51 rfl rfl ?_
        refine V.iload_n hc dX12_is_52 rfl rfl ?_
        obtain ⟨g8, hw⟩ := hw
        refine V.sChar hc ml_X12_170 rfl rfl g8 dX12_is_53 ?_
        refine V.aload_n (t := 12) hc dX12_is_56 rfl rfl ?_
        refine V.gR hc gR_X12_49 (i' := o) rfl dX12_is_57 ?_
        refine V.aload_n (t := 12) hc dX12_is_60 rfl rfl ?_
        refine V.gI hc gI_X12_134 rfl dX12_is_61 ?_
        refine V.iload_n hc dX12_is_64 rfl rfl ?_
        refine V.iadd hc dX12_is_65 ?_
        obtain ⟨g9, hw⟩ := hw
        refine V.ald hc ak_58 g9 dX12_is_66 ?_
        obtain ⟨q13, hw⟩ := hw
        have kJ14 : ∀ t12 : Int, ((¬ strC s1 l3 = h 58 o ((h 12 o 17) + l3) → t12 = 0) ∧ (strC s1 l3 = h 58 o ((h 12 o 17) + l3) → t12 = 1)) → V G p l e (rmD 8 0) s m args below meth c (MQ below (QI G P) args s 0 0 (va_Aof G)) 4 75 [(22, o), (6, s1), (1, 0), (0, l3)] [(0, t12)] h 0 := by
          intro t12 he
          replace hw := hw t12 he
          clear he
          refine V.istore_n hc dX12_is_75 rfl rfl (lo' := [(22, o), (6, s1), (0, t12), (0, l3)]) rfl ?_
          refine V.iinc hc dX12_is_76 rfl rfl (lo' := [(22, o), (6, s1), (0, t12), (0, l3 + 1)]) rfl ?_
          refine V.goto hc (tgt := 39) dX12_is_79 (by decide) ?_
          exact ih _ _ _ hw
        obtain ⟨g10, g11⟩ := q13
        refine V.icmp_ne hc (tgt := 74) dX12_is_67 (by decide) g10 g11 (fun c15 => ?_) (fun c15 => ?_)
        · refine V.iconst hc dX12_is_74 ?_
          refine V.drop (lo' := [(22, o), (6, s1), (1, 0), (0, l3)]) ⟨Or.inr rfl, Or.inr rfl, Or.inl rfl, Or.inr rfl, trivial⟩ ?_
          exact kJ14 _ ⟨fun _ => rfl, (fun q => absurd q c15)⟩
        · refine V.iconst hc dX12_is_70 ?_
          refine V.goto hc (tgt := 75) dX12_is_71 (by decide) ?_
          refine V.drop (lo' := [(22, o), (6, s1), (1, 0), (0, l3)]) ⟨Or.inr rfl, Or.inr rfl, Or.inl rfl, Or.inr rfl, trivial⟩ ?_
          exact kJ14 _ ⟨(fun q => absurd c15 q), fun _ => rfl⟩
theorem tX12_is_36 {G : GG} {p : Program} {l : Launch} {e : Jvm.Env} {s : State} {m : MethodId} {args : Array Value} {below : List Frame} {meth : Method} {c : Code} {P : Int → HP → Prop} (hc : VC G p (rmD 8 0) s m args meth c RX12 cX12_is 4 8) (hr : meth.sig.returnType = some .boolean) {o : Int} {s1 : Int} {s0 : Int} {h : HP} (hw : wX12_is_36 o s1 s0 P h) : V G p l e (rmD 8 0) s m args below meth c (MQ below (QI G P) args s 0 0 (va_Aof G)) 4 36 [(22, o), (6, s1), (1, 0), (1, 0)] [(0, s0)] h 0 := by
  refine V.istore_n hc dX12_is_36 rfl rfl (lo' := [(22, o), (6, s1), (0, s0), (1, 0)]) rfl ?_
  refine V.iconst hc dX12_is_37 ?_
  refine V.istore_n hc dX12_is_38 rfl rfl (lo' := [(22, o), (6, s1), (0, s0), (0, 0)]) rfl ?_
  obtain ⟨f16, hw⟩ := hw
  refine tX12_is_39 hc hr ?_ f16 _ _ _ hw
  · intro l17 h18 hw
    refine V.iload_n hc dX12_is_82 rfl rfl ?_
    obtain ⟨g19, hw⟩ := hw
    exact V.zret hc hr dX12_is_83 g19 hw
theorem tX12_is_35 {G : GG} {p : Program} {l : Launch} {e : Jvm.Env} {s : State} {m : MethodId} {args : Array Value} {below : List Frame} {meth : Method} {c : Code} {P : Int → HP → Prop} (hc : VC G p (rmD 8 0) s m args meth c RX12 cX12_is 4 8) (hr : meth.sig.returnType = some .boolean) {o : Int} {s1 : Int} {h : HP} (hw : wX12_is_35 o s1 P h) : V G p l e (rmD 8 0) s m args below meth c (MQ below (QI G P) args s 0 0 (va_Aof G)) 4 35 [(22, o), (6, s1), (1, 0), (1, 0)] [] h 0 := by
  refine V.iconst hc dX12_is_35 ?_
  exact tX12_is_36 hc hr  hw
theorem qX12_is (G : GG) (l : Launch) (o : Int) (s1 : Int) (h : HP) (P : Int → HP → Prop) (hw : wX12_is o s1 h P) : CnI l G yX12_is cX12_is 4 (some .boolean) 8 [(22, o), (6, s1)] h P := by
  refine CnI.of (lo := [(22, o), (6, s1), (1, 0), (1, 0)]) (by decide) rfl rfl rfl ?_
  intro p e s m args below meth c hc hr
  have hc : VC G p (rmD 8 0) s m args meth c RX12 cX12_is 4 8 := hc
  refine V.aload_n (t := 12) hc dX12_is_0 rfl rfl ?_
  refine V.gI hc gI_X12_160 rfl dX12_is_1 ?_
  obtain ⟨g1, hw⟩ := hw
  refine V.if_ne hc (tgt := 35) dX12_is_4 (by decide) g1 (fun c2 => ?_) (fun c2 => ?_)
  · replace hw := hw.1 c2
    exact tX12_is_35 hc hr  hw
  · replace hw := hw.2 c2
    refine V.aload_n (t := 12) hc dX12_is_7 rfl rfl ?_
    refine V.gI hc gI_X12_137 rfl dX12_is_8 ?_
    refine V.iconst hc dX12_is_11 ?_
    obtain ⟨g20, hw⟩ := hw
    refine V.icmp_ne hc (tgt := 35) dX12_is_12 (by decide) g20 (by omega) (fun c21 => ?_) (fun c21 => ?_)
    · replace hw := hw.1 c21
      exact tX12_is_35 hc hr  hw
    · replace hw := hw.2 c21
      refine V.aloadS_n hc dX12_is_15 rfl rfl ?_
      refine V.sLen hc ml_X12_166 rfl rfl dX12_is_16 ?_
      refine V.aload_n (t := 12) hc dX12_is_19 rfl rfl ?_
      refine V.gI hc gI_X12_157 rfl dX12_is_20 ?_
      refine V.aload_n (t := 12) hc dX12_is_23 rfl rfl ?_
      refine V.gI hc gI_X12_134 rfl dX12_is_24 ?_
      refine V.isub hc dX12_is_27 ?_
      obtain ⟨g22, hw⟩ := hw
      obtain ⟨g23, hw⟩ := hw
      refine V.icmp_ne hc (tgt := 35) dX12_is_28 (by decide) g22 g23 (fun c24 => ?_) (fun c24 => ?_)
      · replace hw := hw.1 c24
        exact tX12_is_35 hc hr  hw
      · replace hw := hw.2 c24
        refine V.iconst hc dX12_is_31 ?_
        refine V.goto hc (tgt := 36) dX12_is_32 (by decide) ?_
        exact tX12_is_36 hc hr  hw
theorem tX12_which_2 {G : GG} {p : Program} {l : Launch} {e : Jvm.Env} {s : State} {m : MethodId} {args : Array Value} {below : List Frame} {meth : Method} {c : Code} {P : Int → HP → Prop} (hc : VC G p (rmD 9 0) s m args meth c RX12 cX12_which 3 9) (hr : meth.sig.returnType = some .int) {o : Int} {i1 : Int} {K26 : HP → Prop} {K18 : Int → HP → Prop} (hK26 : ∀  (h : HP), K26  h → V G p l e (rmD 9 0) s m args below meth c (MQ below (QI G P) args s 0 0 (va_Aof G)) 3 26 [(1, 0), (1, 0), (1, 0)] [] h 0) (hK18 : ∀ (x2 : Int) (h : HP), K18 x2 h → V G p l e (rmD 9 0) s m args below meth c (MQ below (QI G P) args s 0 0 (va_Aof G)) 3 18 [(1, 0), (1, 0), (0, x2)] [] h 0) : ∀ (f : Nat) (l2 : Int) (h : HP), wX12_which_2 o i1 K26 K18 f l2 h → V G p l e (rmD 9 0) s m args below meth c (MQ below (QI G P) args s 0 0 (va_Aof G)) 3 2 [(22, o), (58, i1), (0, l2)] [] h 0 := by
  intro f
  induction f with
  | zero =>
    intro l2 h hw
    exact hw.elim
  | succ f ih =>
    intro l2 h hw
    refine V.iload_n hc dX12_which_2 rfl rfl ?_
    refine V.aload_n (t := 48) hc dX12_which_3 rfl rfl ?_
    refine V.alnS hc dX12_which_4 ?_
    obtain ⟨g1, hw⟩ := hw
    refine V.icmp_ge hc (tgt := 26) dX12_which_5 (by decide) g1 (by omega) (fun c2 => ?_) (fun c2 => ?_)
    · replace hw := hw.1 c2
      refine V.drop (lo' := [(1, 0), (1, 0), (1, 0)]) ⟨Or.inl rfl, Or.inl rfl, Or.inl rfl, trivial⟩ ?_
      exact hK26 _ hw
    · replace hw := hw.2 c2
      refine V.aload_n (t := 12) hc dX12_which_8 rfl rfl ?_
      refine V.aload_n (t := 48) hc dX12_which_9 rfl rfl ?_
      refine V.iload_n hc dX12_which_10 rfl rfl ?_
      obtain ⟨g3, hw⟩ := hw
      refine V.saald hc g3 dX12_which_11 ?_
      refine V.callVI hc (qX12_is G l _ _ _ _ hw) mo_X12_is ml_X12_174 (by rfl) rfl rfl (as := [(6, l2)]) rfl rfl rfl rfl rfl ⟨Nat.zero_le _, Nat.zero_le _⟩ dX12_which_12 (fun x5 h4 hw => ?_)
      obtain ⟨g6, hw⟩ := hw
      refine V.if_eq hc (tgt := 20) dX12_which_15 (by decide) g6 (fun c7 => ?_) (fun c7 => ?_)
      · replace hw := hw.1 c7
        refine V.iinc hc dX12_which_20 rfl rfl (lo' := [(22, o), (58, i1), (0, l2 + 1)]) rfl ?_
        refine V.goto hc (tgt := 2) dX12_which_23 (by decide) ?_
        exact ih _ _ hw
      · replace hw := hw.2 c7
        refine V.drop (lo' := [(1, 0), (1, 0), (0, l2)]) ⟨Or.inl rfl, Or.inl rfl, Or.inr rfl, trivial⟩ ?_
        exact hK18 _ _ hw
theorem qX12_which (G : GG) (l : Launch) (o : Int) (i1 : Int) (h : HP) (P : Int → HP → Prop) (hw : wX12_which o i1 h P) : CnI l G yX12_which cX12_which 3 (some .int) 9 [(22, o), (58, i1)] h P := by
  refine CnI.of (lo := [(22, o), (58, i1), (1, 0)]) (by decide) rfl rfl rfl ?_
  intro p e s m args below meth c hc hr
  have hc : VC G p (rmD 9 0) s m args meth c RX12 cX12_which 3 9 := hc
  refine V.iconst hc dX12_which_0 ?_
  refine V.istore_n hc dX12_which_1 rfl rfl (lo' := [(22, o), (58, i1), (0, 0)]) rfl ?_
  obtain ⟨f8, hw⟩ := hw
  refine tX12_which_2 hc hr ?_ ?_ f8 _ _ hw
  · intro h9 hw
    refine V.iconst hc dX12_which_26 ?_
    exact V.iret hc hr dX12_which_27 hw
  · intro l10 h11 hw
    refine V.iload_n hc dX12_which_18 rfl rfl ?_
    exact V.iret hc hr dX12_which_19 hw
theorem tX12_numberNow_54 {G : GG} {p : Program} {l : Launch} {e : Jvm.Env} {s : State} {m : MethodId} {args : Array Value} {below : List Frame} {meth : Method} {c : Code} {P : Int → HP → Prop} (hc : VC G p (rmD 9 0) s m args meth c RX12 cX12_numberNow 3 9) (hr : meth.sig.returnType = some .int) {o : Int} {a1 : Int} {a2 : Int} {h : HP} (hw : wX12_numberNow_54 o a1 a2 P h) : V G p l e (rmD 9 0) s m args below meth c (MQ below (QI G P) args s 0 0 (va_Aof G)) 3 54 [(22, o), (0, a1), (1, 0)] [] h 0 := by
  refine V.aload_n (t := 12) hc dX12_numberNow_54 rfl rfl ?_
  refine V.iconst hc dX12_numberNow_55 ?_
  refine V.callVV hc (qX12_wrong G l _ _ _ _ hw) mo_X12_wrong ml_X12_178 (by rfl) rfl rfl (as := [(0, 2)]) rfl rfl rfl rfl rfl ⟨Nat.zero_le _, Nat.zero_le _⟩ dX12_numberNow_56 (fun h7 hw => ?_)
  refine V.aload_n (t := 12) hc dX12_numberNow_59 rfl rfl ?_
  refine V.gI hc gI_X12_160 rfl dX12_numberNow_60 ?_
  obtain ⟨q10, hw⟩ := hw
  have kJ11 : ∀ t9 : Int, ((¬ h7 12 o 19 = 0 → t9 = a1) ∧ (h7 12 o 19 = 0 → t9 = h7 12 o 16)) → V G p l e (rmD 9 0) s m args below meth c (MQ below (QI G P) args s 0 0 (va_Aof G)) 3 74 [(1, 0), (1, 0), (1, 0)] [(0, t9)] h7 0 := by
    intro t9 he
    replace hw := hw t9 he
    clear he
    exact V.iret hc hr dX12_numberNow_74 hw
  have g8 := q10
  refine V.if_ne hc (tgt := 73) dX12_numberNow_63 (by decide) g8 (fun c12 => ?_) (fun c12 => ?_)
  · refine V.iload_n hc dX12_numberNow_73 rfl rfl ?_
    refine V.drop (lo' := [(1, 0), (1, 0), (1, 0)]) ⟨Or.inl rfl, Or.inl rfl, Or.inr rfl, trivial⟩ ?_
    exact kJ11 _ ⟨fun _ => rfl, (fun q => absurd q c12)⟩
  · refine V.aload_n (t := 12) hc dX12_numberNow_66 rfl rfl ?_
    refine V.gI hc gI_X12_147 rfl dX12_numberNow_67 ?_
    refine V.goto hc (tgt := 74) dX12_numberNow_70 (by decide) ?_
    refine V.drop (lo' := [(1, 0), (1, 0), (1, 0)]) ⟨Or.inl rfl, Or.inl rfl, Or.inr rfl, trivial⟩ ?_
    exact kJ11 _ ⟨(fun q => absurd c12 q), fun _ => rfl⟩
theorem qX12_numberNow (G : GG) (l : Launch) (o : Int) (a1 : Int) (a2 : Int) (h : HP) (P : Int → HP → Prop) (hw : wX12_numberNow o a1 a2 h P) : CnI l G yX12_numberNow cX12_numberNow 3 (some .int) 9 [(22, o), (0, a1), (0, a2)] h P := by
  refine CnI.of (lo := [(22, o), (0, a1), (0, a2)]) (by decide) rfl rfl rfl ?_
  intro p e s m args below meth c hc hr
  have hc : VC G p (rmD 9 0) s m args meth c RX12 cX12_numberNow 3 9 := hc
  refine V.aload_n (t := 12) hc dX12_numberNow_0 rfl rfl ?_
  refine V.gI hc gI_X12_160 rfl dX12_numberNow_1 ?_
  obtain ⟨g1, hw⟩ := hw
  refine V.if_eq hc (tgt := 9) dX12_numberNow_4 (by decide) g1 (fun c2 => ?_) (fun c2 => ?_)
  · replace hw := hw.1 c2
    refine V.aload_n (t := 12) hc dX12_numberNow_9 rfl rfl ?_
    refine V.gI hc gI_X12_137 rfl dX12_numberNow_10 ?_
    refine V.iconst hc dX12_numberNow_13 ?_
    obtain ⟨g3, hw⟩ := hw
    refine V.icmp_eq hc (tgt := 25) dX12_numberNow_14 (by decide) g3 (by omega) (fun c4 => ?_) (fun c4 => ?_)
    · replace hw := hw.1 c4
      refine V.aload_n (t := 12) hc dX12_numberNow_25 rfl rfl ?_
      refine V.gI hc gI_X12_157 rfl dX12_numberNow_26 ?_
      refine V.aload_n (t := 12) hc dX12_numberNow_29 rfl rfl ?_
      refine V.gI hc gI_X12_134 rfl dX12_numberNow_30 ?_
      refine V.isub hc dX12_numberNow_33 ?_
      refine V.iconst hc dX12_numberNow_34 ?_
      obtain ⟨g5, hw⟩ := hw
      refine V.icmp_gt hc (tgt := 54) dX12_numberNow_35 (by decide) g5 (by omega) (fun c6 => ?_) (fun c6 => ?_)
      · replace hw := hw.1 c6
        refine V.drop (lo' := [(22, o), (0, a1), (1, 0)]) ⟨Or.inr rfl, Or.inr rfl, Or.inl rfl, trivial⟩ ?_
        exact tX12_numberNow_54 hc hr  hw
      · replace hw := hw.2 c6
        refine V.aload_n (t := 12) hc dX12_numberNow_38 rfl rfl ?_
        refine V.gI hc gI_X12_147 rfl dX12_numberNow_39 ?_
        refine V.iload_n hc dX12_numberNow_42 rfl rfl ?_
        obtain ⟨g13, hw⟩ := hw
        obtain ⟨g14, hw⟩ := hw
        refine V.icmp_lt hc (tgt := 54) dX12_numberNow_43 (by decide) g13 g14 (fun c15 => ?_) (fun c15 => ?_)
        · replace hw := hw.1 c15
          refine V.drop (lo' := [(22, o), (0, a1), (1, 0)]) ⟨Or.inr rfl, Or.inr rfl, Or.inl rfl, trivial⟩ ?_
          exact tX12_numberNow_54 hc hr  hw
        · replace hw := hw.2 c15
          refine V.aload_n (t := 12) hc dX12_numberNow_46 rfl rfl ?_
          refine V.gI hc gI_X12_147 rfl dX12_numberNow_47 ?_
          refine V.iload_n hc dX12_numberNow_50 rfl rfl ?_
          obtain ⟨g16, hw⟩ := hw
          obtain ⟨g17, hw⟩ := hw
          refine V.icmp_le hc (tgt := 59) dX12_numberNow_51 (by decide) g16 g17 (fun c18 => ?_) (fun c18 => ?_)
          · replace hw := hw.1 c18
            refine V.aload_n (t := 12) hc dX12_numberNow_59 rfl rfl ?_
            refine V.gI hc gI_X12_160 rfl dX12_numberNow_60 ?_
            obtain ⟨q21, hw⟩ := hw
            have kJ22 : ∀ t20 : Int, ((¬ h 12 o 19 = 0 → t20 = a1) ∧ (h 12 o 19 = 0 → t20 = h 12 o 16)) → V G p l e (rmD 9 0) s m args below meth c (MQ below (QI G P) args s 0 0 (va_Aof G)) 3 74 [(1, 0), (1, 0), (1, 0)] [(0, t20)] h 0 := by
              intro t20 he
              replace hw := hw t20 he
              clear he
              exact V.iret hc hr dX12_numberNow_74 hw
            have g19 := q21
            refine V.if_ne hc (tgt := 73) dX12_numberNow_63 (by decide) g19 (fun c23 => ?_) (fun c23 => ?_)
            · refine V.iload_n hc dX12_numberNow_73 rfl rfl ?_
              refine V.drop (lo' := [(1, 0), (1, 0), (1, 0)]) ⟨Or.inl rfl, Or.inl rfl, Or.inl rfl, trivial⟩ ?_
              exact kJ22 _ ⟨fun _ => rfl, (fun q => absurd q c23)⟩
            · refine V.aload_n (t := 12) hc dX12_numberNow_66 rfl rfl ?_
              refine V.gI hc gI_X12_147 rfl dX12_numberNow_67 ?_
              refine V.goto hc (tgt := 74) dX12_numberNow_70 (by decide) ?_
              refine V.drop (lo' := [(1, 0), (1, 0), (1, 0)]) ⟨Or.inl rfl, Or.inl rfl, Or.inl rfl, trivial⟩ ?_
              exact kJ22 _ ⟨(fun q => absurd c23 q), fun _ => rfl⟩
          · replace hw := hw.2 c18
            refine V.drop (lo' := [(22, o), (0, a1), (1, 0)]) ⟨Or.inr rfl, Or.inr rfl, Or.inl rfl, trivial⟩ ?_
            exact tX12_numberNow_54 hc hr  hw
    · replace hw := hw.2 c4
      refine V.aload_n (t := 12) hc dX12_numberNow_17 rfl rfl ?_
      refine V.iconst hc dX12_numberNow_18 ?_
      refine V.callVV hc (qX12_wrong G l _ _ _ _ hw) mo_X12_wrong ml_X12_178 (by rfl) rfl rfl (as := [(0, 1)]) rfl rfl rfl rfl rfl ⟨Nat.zero_le _, Nat.zero_le _⟩ dX12_numberNow_19 (fun h24 hw => ?_)
      refine V.goto hc (tgt := 59) dX12_numberNow_22 (by decide) ?_
      refine V.aload_n (t := 12) hc dX12_numberNow_59 rfl rfl ?_
      refine V.gI hc gI_X12_160 rfl dX12_numberNow_60 ?_
      obtain ⟨q27, hw⟩ := hw
      have kJ28 : ∀ t26 : Int, ((¬ h24 12 o 19 = 0 → t26 = a1) ∧ (h24 12 o 19 = 0 → t26 = h24 12 o 16)) → V G p l e (rmD 9 0) s m args below meth c (MQ below (QI G P) args s 0 0 (va_Aof G)) 3 74 [(1, 0), (1, 0), (1, 0)] [(0, t26)] h24 0 := by
        intro t26 he
        replace hw := hw t26 he
        clear he
        exact V.iret hc hr dX12_numberNow_74 hw
      have g25 := q27
      refine V.if_ne hc (tgt := 73) dX12_numberNow_63 (by decide) g25 (fun c29 => ?_) (fun c29 => ?_)
      · refine V.iload_n hc dX12_numberNow_73 rfl rfl ?_
        refine V.drop (lo' := [(1, 0), (1, 0), (1, 0)]) ⟨Or.inl rfl, Or.inl rfl, Or.inl rfl, trivial⟩ ?_
        exact kJ28 _ ⟨fun _ => rfl, (fun q => absurd q c29)⟩
      · refine V.aload_n (t := 12) hc dX12_numberNow_66 rfl rfl ?_
        refine V.gI hc gI_X12_147 rfl dX12_numberNow_67 ?_
        refine V.goto hc (tgt := 74) dX12_numberNow_70 (by decide) ?_
        refine V.drop (lo' := [(1, 0), (1, 0), (1, 0)]) ⟨Or.inl rfl, Or.inl rfl, Or.inl rfl, trivial⟩ ?_
        exact kJ28 _ ⟨(fun q => absurd c29 q), fun _ => rfl⟩
  · replace hw := hw.2 c2
    refine V.iload_n hc dX12_numberNow_7 rfl rfl ?_
    exact V.iret hc hr dX12_numberNow_8 hw
theorem qX12_readNumber (G : GG) (l : Launch) (o : Int) (a1 : Int) (a2 : Int) (h : HP) (P : Int → HP → Prop) (hw : wX12_readNumber o a1 a2 h P) : CnI l G yX12_readNumber cX12_readNumber 4 (some .int) 10 [(22, o), (0, a1), (0, a2)] h P := by
  refine CnI.of (lo := [(22, o), (0, a1), (0, a2), (1, 0)]) (by decide) rfl rfl rfl ?_
  intro p e s m args below meth c hc hr
  have hc : VC G p (rmD 10 0) s m args meth c RX12 cX12_readNumber 4 10 := hc
  refine V.aload_n (t := 12) hc dX12_readNumber_0 rfl rfl ?_
  refine V.iload_n hc dX12_readNumber_1 rfl rfl ?_
  refine V.iload_n hc dX12_readNumber_2 rfl rfl ?_
  refine V.callVI hc (qX12_numberNow G l _ _ _ _ _ hw) mo_X12_numberNow ml_X12_182 (by rfl) rfl rfl (as := [(0, a1), (0, a2)]) rfl rfl rfl rfl rfl ⟨Nat.zero_le _, Nat.zero_le _⟩ dX12_readNumber_3 (fun x2 h1 hw => ?_)
  refine V.istore_n hc dX12_readNumber_6 rfl rfl (lo' := [(22, o), (0, a1), (0, a2), (0, x2)]) rfl ?_
  refine V.aload_n (t := 12) hc dX12_readNumber_7 rfl rfl ?_
  refine V.gI hc gI_X12_160 rfl dX12_readNumber_8 ?_
  obtain ⟨g3, hw⟩ := hw
  refine V.if_ne hc (tgt := 18) dX12_readNumber_11 (by decide) g3 (fun c4 => ?_) (fun c4 => ?_)
  · replace hw := hw.1 c4
    refine V.iload_n hc dX12_readNumber_18 rfl rfl ?_
    exact V.iret hc hr dX12_readNumber_19 hw
  · replace hw := hw.2 c4
    refine V.aload_n (t := 12) hc dX12_readNumber_14 rfl rfl ?_
    refine V.callVV hc (qX12_stepOn G l _ _ _ hw) mo_X12_stepOn ml_X12_185 (by rfl) rfl rfl (as := []) rfl rfl rfl rfl rfl ⟨Nat.zero_le _, Nat.zero_le _⟩ dX12_readNumber_15 (fun h5 hw => ?_)
    refine V.iload_n hc dX12_readNumber_18 rfl rfl ?_
    exact V.iret hc hr dX12_readNumber_19 hw
theorem qX12_newClasses (G : GG) (l : Launch) (o : Int) (h : HP) (P : Int → HP → Prop) (hw : wX12_newClasses o h P) : CnI l G yX12_newClasses cX12_newClasses 1 (some .int) 8 [(22, o)] h P := by
  refine CnI.of (lo := [(22, o)]) (by decide) rfl rfl rfl ?_
  intro p e s m args below meth c hc hr
  have hc : VC G p (rmD 8 0) s m args meth c RX12 cX12_newClasses 1 8 := hc
  refine V.aload_n (t := 12) hc dX12_newClasses_0 rfl rfl ?_
  refine V.gR hc gR_X12_21 (i' := o) rfl dX12_newClasses_1 ?_
  refine V.iconst hc dX12_newClasses_4 ?_
  refine V.ald hc ak_49 (by omega) dX12_newClasses_5 ?_
  exact V.iret hc hr dX12_newClasses_6 hw
theorem tX12_hasNewFlow_2 {G : GG} {p : Program} {l : Launch} {e : Jvm.Env} {s : State} {m : MethodId} {args : Array Value} {below : List Frame} {meth : Method} {c : Code} {P : Int → HP → Prop} (hc : VC G p (rmD 8 0) s m args meth c RX12 cX12_hasNewFlow 3 8) (hr : meth.sig.returnType = some .boolean) {o : Int} {a1 : Int} {h : HP} {K33 : Prop} {K25 : Prop} (hK33 : K33 → V G p l e (rmD 8 0) s m args below meth c (MQ below (QI G P) args s 0 0 (va_Aof G)) 3 33 [(1, 0), (1, 0), (1, 0)] [] h 0) (hK25 : K25 → V G p l e (rmD 8 0) s m args below meth c (MQ below (QI G P) args s 0 0 (va_Aof G)) 3 25 [(1, 0), (1, 0), (1, 0)] [] h 0) : ∀ (f : Nat) (l2 : Int), wX12_hasNewFlow_2 o a1 h K33 K25 f l2 → V G p l e (rmD 8 0) s m args below meth c (MQ below (QI G P) args s 0 0 (va_Aof G)) 3 2 [(22, o), (0, a1), (0, l2)] [] h 0 := by
  intro f
  induction f with
  | zero =>
    intro l2 hw
    exact hw.elim
  | succ f ih =>
    intro l2 hw
    refine V.iload_n hc dX12_hasNewFlow_2 rfl rfl ?_
    refine V.aload_n (t := 12) hc dX12_hasNewFlow_3 rfl rfl ?_
    refine V.gR hc gR_X12_21 (i' := o) rfl dX12_hasNewFlow_4 ?_
    refine V.iconst hc dX12_hasNewFlow_7 ?_
    refine V.ald hc ak_49 (by omega) dX12_hasNewFlow_8 ?_
    obtain ⟨g1, hw⟩ := hw
    obtain ⟨g2, hw⟩ := hw
    refine V.icmp_ge hc (tgt := 33) dX12_hasNewFlow_9 (by decide) g1 g2 (fun c3 => ?_) (fun c3 => ?_)
    · replace hw := hw.1 c3
      refine V.drop (lo' := [(1, 0), (1, 0), (1, 0)]) ⟨Or.inl rfl, Or.inl rfl, Or.inl rfl, trivial⟩ ?_
      exact hK33 hw
    · replace hw := hw.2 c3
      refine V.aload_n (t := 12) hc dX12_hasNewFlow_12 rfl rfl ?_
      refine V.gR hc gR_X12_28 (i' := o) rfl dX12_hasNewFlow_13 ?_
      refine V.bipush hc dX12_hasNewFlow_16 (by decide) ?_
      refine V.iload_n hc dX12_hasNewFlow_18 rfl rfl ?_
      refine V.iadd hc dX12_hasNewFlow_19 ?_
      obtain ⟨g4, hw⟩ := hw
      refine V.ald hc ak_51 g4 dX12_hasNewFlow_20 ?_
      refine V.iload_n hc dX12_hasNewFlow_21 rfl rfl ?_
      obtain ⟨g5, hw⟩ := hw
      obtain ⟨g6, hw⟩ := hw
      refine V.icmp_ne hc (tgt := 27) dX12_hasNewFlow_22 (by decide) g5 g6 (fun c7 => ?_) (fun c7 => ?_)
      · replace hw := hw.1 c7
        refine V.iinc hc dX12_hasNewFlow_27 rfl rfl (lo' := [(22, o), (0, a1), (0, l2 + 1)]) rfl ?_
        refine V.goto hc (tgt := 2) dX12_hasNewFlow_30 (by decide) ?_
        exact ih _ hw
      · replace hw := hw.2 c7
        refine V.drop (lo' := [(1, 0), (1, 0), (1, 0)]) ⟨Or.inl rfl, Or.inl rfl, Or.inl rfl, trivial⟩ ?_
        exact hK25 hw
theorem qX12_hasNewFlow (G : GG) (l : Launch) (o : Int) (a1 : Int) (h : HP) (P : Int → HP → Prop) (hw : wX12_hasNewFlow o a1 h P) : CnI l G yX12_hasNewFlow cX12_hasNewFlow 3 (some .boolean) 8 [(22, o), (0, a1)] h P := by
  refine CnI.of (lo := [(22, o), (0, a1), (1, 0)]) (by decide) rfl rfl rfl ?_
  intro p e s m args below meth c hc hr
  have hc : VC G p (rmD 8 0) s m args meth c RX12 cX12_hasNewFlow 3 8 := hc
  refine V.iconst hc dX12_hasNewFlow_0 ?_
  refine V.istore_n hc dX12_hasNewFlow_1 rfl rfl (lo' := [(22, o), (0, a1), (0, 0)]) rfl ?_
  obtain ⟨f8, hw⟩ := hw
  refine tX12_hasNewFlow_2 hc hr ?_ ?_ f8 _ hw
  · intro hw
    refine V.iconst hc dX12_hasNewFlow_33 ?_
    exact V.zret hc hr dX12_hasNewFlow_34 (by omega) hw
  · intro hw
    refine V.iconst hc dX12_hasNewFlow_25 ?_
    exact V.zret hc hr dX12_hasNewFlow_26 (by omega) hw
