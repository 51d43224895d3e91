theorem tX12_lift_45 {G : GG} {p : Program} {l : Launch} {e : Jvm.Env} {s : State} {m : MethodId} {args : Array Value} {below : List Frame} {meth : Method} {c : Code} {P : Int → HP → Prop} (hc : VC G p (rmD 10 0) s m args meth c RX12 cX12_lift 4 10) (hr : meth.sig.returnType = some .boolean) {o : Int} {a1 : Int} {a2 : Int} {K69 : HP → Prop} (hK69 : ∀  (h : HP), K69  h → V G p l e (rmD 10 0) s m args below meth c (MQ below (QI G P) args s 0 0 (va_Aof G)) 4 69 [(22, o), (0, a1), (0, a2), (1, 0)] [] h 0) : ∀ (f : Nat) (l3 : Int) (h : HP), wX12_lift_45 o a1 a2 K69 f l3 h → V G p l e (rmD 10 0) s m args below meth c (MQ below (QI G P) args s 0 0 (va_Aof G)) 4 45 [(22, o), (0, a1), (0, a2), (0, l3)] [] h 0 := by
  intro f
  induction f with
  | zero =>
    intro l3 h hw
    exact hw.elim
  | succ f ih =>
    intro l3 h hw
    refine V.iload_n hc dX12_lift_45 rfl rfl ?_
    refine V.iconst hc dX12_lift_46 ?_
    obtain ⟨g15, hw⟩ := hw
    refine V.icmp_ge hc (tgt := 69) dX12_lift_47 (by decide) g15 (by omega) (fun c16 => ?_) (fun c16 => ?_)
    · replace hw := hw.1 c16
      refine V.drop (lo' := [(22, o), (0, a1), (0, a2), (1, 0)]) ⟨Or.inr rfl, Or.inr rfl, Or.inr rfl, Or.inl rfl, trivial⟩ ?_
      exact hK69 _ hw
    · replace hw := hw.2 c16
      refine V.aload_n (t := 12) hc dX12_lift_50 rfl rfl ?_
      refine V.gR hc gR_X12_43 (i' := o) rfl dX12_lift_51 ?_
      refine V.iload_n hc dX12_lift_54 rfl rfl ?_
      refine V.iload_n hc dX12_lift_55 rfl rfl ?_
      refine V.callSI hc (qX12_curveAt G l _ _ _ _ hw) mo_X12_curveAt ml_X12_245 (as := [(0, a1), (0, a2)]) rfl rfl rfl rfl rfl ⟨Nat.zero_le _, Nat.zero_le _⟩ dX12_lift_56 (fun x18 h17 hw => ?_)
      refine V.iload_n hc dX12_lift_59 rfl rfl ?_
      refine V.iadd hc dX12_lift_60 ?_
      refine V.iconst hc dX12_lift_61 ?_
      obtain ⟨g20, hw⟩ := hw
      refine V.ast hc ak_56 g20 dX12_lift_62 (fun h19 e => ?_)
      replace hw := hw h19 e
      clear e
      refine V.iinc hc dX12_lift_63 rfl rfl (lo' := [(22, o), (0, a1), (0, a2), (0, l3 + 1)]) rfl ?_
      refine V.goto hc (tgt := 45) dX12_lift_66 (by decide) ?_
      exact ih _ _ hw
theorem tX12_lift_22 {G : GG} {p : Program} {l : Launch} {e : Jvm.Env} {s : State} {m : MethodId} {args : Array Value} {below : List Frame} {meth : Method} {c : Code} {P : Int → HP → Prop} (hc : VC G p (rmD 10 0) s m args meth c RX12 cX12_lift 4 10) (hr : meth.sig.returnType = some .boolean) {o : Int} {a1 : Int} {a2 : Int} {h : HP} (hw : wX12_lift_22 o a1 a2 P h) : V G p l e (rmD 10 0) s m args below meth c (MQ below (QI G P) args s 0 0 (va_Aof G)) 4 22 [(22, o), (0, a1), (0, a2), (1, 0)] [] h 0 := by
  refine V.aload_n (t := 12) hc dX12_lift_22 rfl rfl ?_
  refine V.iload_n hc dX12_lift_23 rfl rfl ?_
  refine V.iload_n hc dX12_lift_24 rfl rfl ?_
  refine V.callVI hc (qX12_hasCurve G l _ _ _ _ _ hw) mo_X12_hasCurve ml_X12_283 (by rfl) rfl rfl (as := [(0, a1), (0, a2)]) rfl rfl rfl rfl rfl ⟨Nat.zero_le _, Nat.zero_le _⟩ dX12_lift_25 (fun x11 h10 hw => ?_)
  obtain ⟨g12, hw⟩ := hw
  refine V.if_ne hc (tgt := 39) dX12_lift_28 (by decide) g12 (fun c13 => ?_) (fun c13 => ?_)
  · replace hw := hw.1 c13
    refine V.aload_n (t := 12) hc dX12_lift_39 rfl rfl ?_
    refine V.callVV hc (qX12_keep G l _ _ _ hw) mo_X12_keep ml_X12_372 (by rfl) rfl rfl (as := []) rfl rfl rfl rfl rfl ⟨Nat.zero_le _, Nat.zero_le _⟩ dX12_lift_40 (fun h14 hw => ?_)
    refine V.iconst hc dX12_lift_43 ?_
    refine V.istore_n hc dX12_lift_44 rfl rfl (lo' := [(22, o), (0, a1), (0, a2), (0, 0)]) rfl ?_
    obtain ⟨f21, hw⟩ := hw
    refine tX12_lift_45 hc hr ?_ f21 _ _ hw
    · intro h22 hw
      refine V.aload_n (t := 12) hc dX12_lift_69 rfl rfl ?_
      refine V.gR hc gR_X12_43 (i' := o) rfl dX12_lift_70 ?_
      refine V.iload_n hc dX12_lift_73 rfl rfl ?_
      refine V.iload_n hc dX12_lift_74 rfl rfl ?_
      refine V.callSI hc (qX12_laidAt G l _ _ _ _ hw) mo_X12_laidAt ml_X12_248 (as := [(0, a1), (0, a2)]) rfl rfl rfl rfl rfl ⟨Nat.zero_le _, Nat.zero_le _⟩ dX12_lift_75 (fun x24 h23 hw => ?_)
      refine V.iconst hc dX12_lift_78 ?_
      obtain ⟨g26, hw⟩ := hw
      refine V.ast hc ak_56 g26 dX12_lift_79 (fun h25 e => ?_)
      replace hw := hw h25 e
      clear e
      refine V.iconst hc dX12_lift_80 ?_
      exact V.zret hc hr dX12_lift_81 (by omega) hw
  · replace hw := hw.2 c13
    refine V.aload_n (t := 12) hc dX12_lift_31 rfl rfl ?_
    refine V.iconst hc dX12_lift_32 ?_
    refine V.callVI hc (qX12_refuse G l _ _ _ _ hw) mo_X12_refuse ml_X12_369 (by rfl) rfl rfl (as := [(0, 1)]) rfl rfl rfl rfl rfl ⟨Nat.zero_le _, Nat.zero_le _⟩ dX12_lift_33 (fun x28 h27 hw => ?_)
    refine V.pop hc dX12_lift_36 (by show (0 : Nat) ≠ 2; omega) ?_
    refine V.iconst hc dX12_lift_37 ?_
    exact V.zret hc hr dX12_lift_38 (by omega) hw
theorem qX12_lift (G : GG) (l : Launch) (o : Int) (a1 : Int) (a2 : Int) (h : HP) (P : Int → HP → Prop) (hw : wX12_lift o a1 a2 h P) : CnI l G yX12_lift cX12_lift 4 (some .boolean) 10 [(22, o), (0, a1), (0, a2)] h P := by
  refine CnI.of (lo := [(22, o), (0, a1), (0, a2), (1, 0)]) (by decide) rfl rfl rfl ?_
  intro p e s m args below meth c hc hr
  have hc : VC G p (rmD 10 0) s m args meth c RX12 cX12_lift 4 10 := hc
  refine V.aload_n (t := 12) hc dX12_lift_0 rfl rfl ?_
  refine V.iconst hc dX12_lift_1 ?_
  refine V.pI hc pI_X12_118 rfl dX12_lift_2 (fun h1 e => ?_)
  replace hw := hw h1 e
  clear e
  refine V.aload_n (t := 12) hc dX12_lift_5 rfl rfl ?_
  refine V.iload_n hc dX12_lift_6 rfl rfl ?_
  refine V.callVI hc (qX12_isClass G l _ _ _ _ hw) mo_X12_isClass ml_X12_360 (by rfl) rfl rfl (as := [(0, a1)]) rfl rfl rfl rfl rfl ⟨Nat.zero_le _, Nat.zero_le _⟩ dX12_lift_7 (fun x3 h2 hw => ?_)
  obtain ⟨g4, hw⟩ := hw
  refine V.if_eq hc (tgt := 31) dX12_lift_10 (by decide) g4 (fun c5 => ?_) (fun c5 => ?_)
  · replace hw := hw.1 c5
    refine V.aload_n (t := 12) hc dX12_lift_31 rfl rfl ?_
    refine V.iconst hc dX12_lift_32 ?_
    refine V.callVI hc (qX12_refuse G l _ _ _ _ hw) mo_X12_refuse ml_X12_369 (by rfl) rfl rfl (as := [(0, 1)]) rfl rfl rfl rfl rfl ⟨Nat.zero_le _, Nat.zero_le _⟩ dX12_lift_33 (fun x7 h6 hw => ?_)
    refine V.pop hc dX12_lift_36 (by show (0 : Nat) ≠ 2; omega) ?_
    refine V.iconst hc dX12_lift_37 ?_
    exact V.zret hc hr dX12_lift_38 (by omega) hw
  · replace hw := hw.2 c5
    refine V.iload_n hc dX12_lift_13 rfl rfl ?_
    obtain ⟨g8, hw⟩ := hw
    refine V.if_eq hc (tgt := 22) dX12_lift_14 (by decide) g8 (fun c9 => ?_) (fun c9 => ?_)
    · replace hw := hw.1 c9
      exact tX12_lift_22 hc hr  hw
    · replace hw := hw.2 c9
      refine V.iload_n hc dX12_lift_17 rfl rfl ?_
      refine V.iconst hc dX12_lift_18 ?_
      obtain ⟨g29, hw⟩ := hw
      refine V.icmp_ne hc (tgt := 31) dX12_lift_19 (by decide) g29 (by omega) (fun c30 => ?_) (fun c30 => ?_)
      · replace hw := hw.1 c30
        refine V.aload_n (t := 12) hc dX12_lift_31 rfl rfl ?_
        refine V.iconst hc dX12_lift_32 ?_
        refine V.callVI hc (qX12_refuse G l _ _ _ _ hw) mo_X12_refuse ml_X12_369 (by rfl) rfl rfl (as := [(0, 1)]) rfl rfl rfl rfl rfl ⟨Nat.zero_le _, Nat.zero_le _⟩ dX12_lift_33 (fun x32 h31 hw => ?_)
        refine V.pop hc dX12_lift_36 (by show (0 : Nat) ≠ 2; omega) ?_
        refine V.iconst hc dX12_lift_37 ?_
        exact V.zret hc hr dX12_lift_38 (by omega) hw
      · replace hw := hw.2 c30
        exact tX12_lift_22 hc hr  hw
theorem qX12_stop (G : GG) (l : Launch) (o : Int) (a1 : Int) (h : HP) (P : Int → HP → Prop) (hw : wX12_stop o a1 h P) : CnI l G yX12_stop cX12_stop 2 (some .int) 9 [(22, o), (0, a1)] h P := by
  refine CnI.of (lo := [(22, o), (0, a1)]) (by decide) rfl rfl rfl ?_
  intro p e s m args below meth c hc hr
  have hc : VC G p (rmD 9 0) s m args meth c RX12 cX12_stop 2 9 := hc
  refine V.aload_n (t := 12) hc dX12_stop_0 rfl rfl ?_
  refine V.iconst hc dX12_stop_1 ?_
  refine V.pI hc pI_X12_118 rfl dX12_stop_2 (fun h1 e => ?_)
  replace hw := hw h1 e
  clear e
  refine V.iload_n hc dX12_stop_5 rfl rfl ?_
  refine V.iconst hc dX12_stop_6 ?_
  refine V.aload_n (t := 12) hc dX12_stop_7 rfl rfl ?_
  refine V.gR hc gR_X12_21 (i' := o) rfl dX12_stop_8 ?_
  refine V.iconst hc dX12_stop_11 ?_
  refine V.ald hc ak_49 (by omega) dX12_stop_12 ?_
  refine V.iconst hc dX12_stop_13 ?_
  refine V.isub hc dX12_stop_14 ?_
  refine V.callSI hc (qX12_isIn G l _ _ _ _ _ hw) mo_X12_isIn ml_X12_356 (as := [(0, a1), (0, 0), (0, (h1 49 o 1) - 1)]) rfl rfl rfl rfl rfl ⟨Nat.zero_le _, Nat.zero_le _⟩ dX12_stop_15 (fun x3 h2 hw => ?_)
  obtain ⟨g4, hw⟩ := hw
  refine V.if_ne hc (tgt := 27) dX12_stop_18 (by decide) g4 (fun c5 => ?_) (fun c5 => ?_)
  · replace hw := hw.1 c5
    refine V.aload_n (t := 12) hc dX12_stop_27 rfl rfl ?_
    refine V.callVV hc (qX12_keep G l _ _ _ hw) mo_X12_keep ml_X12_372 (by rfl) rfl rfl (as := []) rfl rfl rfl rfl rfl ⟨Nat.zero_le _, Nat.zero_le _⟩ dX12_stop_28 (fun h6 hw => ?_)
    refine V.aload_n (t := 12) hc dX12_stop_31 rfl rfl ?_
    refine V.gR hc gR_X12_43 (i' := o) rfl dX12_stop_32 ?_
    refine V.sipush hc dX12_stop_35 (by decide) ?_
    refine V.dup2 hc dX12_stop_38 (by simp) (by simp) ?_
    refine V.ald hc ak_56 (by omega) dX12_stop_39 ?_
    refine V.iconst hc dX12_stop_40 ?_
    refine V.iload_n hc dX12_stop_41 rfl rfl ?_
    refine V.ishl hc dX12_stop_42 ?_
    refine V.ixor hc dX12_stop_43 ?_
    refine V.ast hc ak_56 (by omega) dX12_stop_44 (fun h7 e => ?_)
    replace hw := hw h7 e
    clear e
    refine V.aload_n (t := 12) hc dX12_stop_45 rfl rfl ?_
    refine V.gR hc gR_X12_43 (i' := o) rfl dX12_stop_46 ?_
    refine V.sipush hc dX12_stop_49 (by decide) ?_
    refine V.ald hc ak_56 (by omega) dX12_stop_52 ?_
    exact V.iret hc hr dX12_stop_53 hw
  · replace hw := hw.2 c5
    refine V.aload_n (t := 12) hc dX12_stop_21 rfl rfl ?_
    refine V.iconst hc dX12_stop_22 ?_
    refine V.callVI hc (qX12_refuse G l _ _ _ _ hw) mo_X12_refuse ml_X12_369 (by rfl) rfl rfl (as := [(0, 1)]) rfl rfl rfl rfl rfl ⟨Nat.zero_le _, Nat.zero_le _⟩ dX12_stop_23 (fun x9 h8 hw => ?_)
    exact V.iret hc hr dX12_stop_26 hw
theorem tX12_undo_26 {G : GG} {p : Program} {l : Launch} {e : Jvm.Env} {s : State} {m : MethodId} {args : Array Value} {below : List Frame} {meth : Method} {c : Code} {P : Int → HP → Prop} (hc : VC G p (rmD 8 0) s m args meth c RX12 cX12_undo 2 8) (hr : meth.sig.returnType = some .int) {o : Int} {K60 : HP → Prop} (hK60 : ∀  (h : HP), K60  h → V G p l e (rmD 8 0) s m args below meth c (MQ below (QI G P) args s 0 0 (va_Aof G)) 2 60 [(22, o), (1, 0)] [] h 0) : ∀ (f : Nat) (l1 : Int) (h : HP), wX12_undo_26 o K60 f l1 h → V G p l e (rmD 8 0) s m args below meth c (MQ below (QI G P) args s 0 0 (va_Aof G)) 2 26 [(22, o), (0, l1)] [] h 0 := by
  intro f
  induction f with
  | zero =>
    intro l1 h hw
    exact hw.elim
  | succ f ih =>
    intro l1 h hw
    refine V.iload_n hc dX12_undo_26 rfl rfl ?_
    refine V.sipush hc dX12_undo_27 (by decide) ?_
    obtain ⟨g5, hw⟩ := hw
    refine V.icmp_ge hc (tgt := 60) dX12_undo_30 (by decide) g5 (by omega) (fun c6 => ?_) (fun c6 => ?_)
    · replace hw := hw.1 c6
      refine V.drop (lo' := [(22, o), (1, 0)]) ⟨Or.inr rfl, Or.inl rfl, trivial⟩ ?_
      exact hK60 _ hw
    · replace hw := hw.2 c6
      refine V.aload_n (t := 12) hc dX12_undo_33 rfl rfl ?_
      refine V.gR hc gR_X12_43 (i' := o) rfl dX12_undo_34 ?_
      refine V.iload_n hc dX12_undo_37 rfl rfl ?_
      refine V.aload_n (t := 12) hc dX12_undo_38 rfl rfl ?_
      refine V.gR hc gR_X12_73 (i' := o) rfl dX12_undo_39 ?_
      refine V.sipush hc dX12_undo_42 (by decide) ?_
      refine V.aload_n (t := 12) hc dX12_undo_45 rfl rfl ?_
      refine V.gI hc gI_X12_232 rfl dX12_undo_46 ?_
      refine V.imul hc dX12_undo_49 ?_
      refine V.iload_n hc dX12_undo_50 rfl rfl ?_
      refine V.iadd hc dX12_undo_51 ?_
      obtain ⟨g7, hw⟩ := hw
      refine V.ald hc ak_62 g7 dX12_undo_52 ?_
      obtain ⟨g9, hw⟩ := hw
      refine V.ast hc ak_56 g9 dX12_undo_53 (fun h8 e => ?_)
      replace hw := hw h8 e
      clear e
      refine V.iinc hc dX12_undo_54 rfl rfl (lo' := [(22, o), (0, l1 + 1)]) rfl ?_
      refine V.goto hc (tgt := 26) dX12_undo_57 (by decide) ?_
      exact ih _ _ hw
theorem qX12_undo (G : GG) (l : Launch) (o : Int) (h : HP) (P : Int → HP → Prop) (hw : wX12_undo o h P) : CnI l G yX12_undo cX12_undo 2 (some .int) 8 [(22, o)] h P := by
  refine CnI.of (lo := [(22, o), (1, 0)]) (by decide) rfl rfl rfl ?_
  intro p e s m args below meth c hc hr
  have hc : VC G p (rmD 8 0) s m args meth c RX12 cX12_undo 2 8 := hc
  refine V.aload_n (t := 12) hc dX12_undo_0 rfl rfl ?_
  refine V.iconst hc dX12_undo_1 ?_
  refine V.pI hc pI_X12_118 rfl dX12_undo_2 (fun h1 e => ?_)
  replace hw := hw h1 e
  clear e
  refine V.aload_n (t := 12) hc dX12_undo_5 rfl rfl ?_
  refine V.gI hc gI_X12_232 rfl dX12_undo_6 ?_
  obtain ⟨g2, hw⟩ := hw
  refine V.if_ne hc (tgt := 14) dX12_undo_9 (by decide) g2 (fun c3 => ?_) (fun c3 => ?_)
  · replace hw := hw.1 c3
    refine V.aload_n (t := 12) hc dX12_undo_14 rfl rfl ?_
    refine V.dup hc dX12_undo_15 (by simp) ?_
    refine V.gI hc gI_X12_232 rfl dX12_undo_16 ?_
    refine V.iconst hc dX12_undo_19 ?_
    refine V.isub hc dX12_undo_20 ?_
    refine V.pI hc pI_X12_232 rfl dX12_undo_21 (fun h4 e => ?_)
    replace hw := hw h4 e
    clear e
    refine V.iconst hc dX12_undo_24 ?_
    refine V.istore_n hc dX12_undo_25 rfl rfl (lo' := [(22, o), (0, 0)]) rfl ?_
    obtain ⟨f10, hw⟩ := hw
    refine tX12_undo_26 hc hr ?_ f10 _ _ hw
    · intro h11 hw
      refine V.aload_n (t := 12) hc dX12_undo_60 rfl rfl ?_
      refine V.gI hc gI_X12_232 rfl dX12_undo_61 ?_
      exact V.iret hc hr dX12_undo_64 hw
  · replace hw := hw.2 c3
    refine V.iconst hc dX12_undo_12 ?_
    exact V.iret hc hr dX12_undo_13 hw
theorem qX12_heightOf (G : GG) (l : Launch) (a0 : Int) (a1 : Int) (a2 : Int) (a3 : Int) (h : HP) (P : Int → HP → Prop) (hw : wX12_heightOf a0 a1 a2 a3 h P) : CnI l G yX12_heightOf cX12_heightOf 4 (some .int) 8 [(0, a0), (0, a1), (0, a2), (0, a3)] h P := by
  refine CnI.of (lo := [(0, a0), (0, a1), (0, a2), (0, a3)]) (by decide) rfl rfl rfl ?_
  intro p e s m args below meth c hc hr
  have hc : VC G p (rmD 8 0) s m args meth c RX12 cX12_heightOf 4 8 := hc
  refine V.iload_n hc dX12_heightOf_0 rfl rfl ?_
  refine V.iload_n hc dX12_heightOf_1 rfl rfl ?_
  obtain ⟨q4, hw⟩ := hw
  have kJ5 : ∀ t3 : Int, ((a1 ≤ a3 → t3 = (a0 * a1) + (a2 * (a3 - a1))) ∧ (¬ a1 ≤ a3 → t3 = a0 * a3)) → V G p l e (rmD 8 0) s m args below meth c (MQ below (QI G P) args s 0 0 (va_Aof G)) 4 20 [(1, 0), (1, 0), (1, 0), (1, 0)] [(0, t3)] h 0 := by
    intro t3 he
    replace hw := hw t3 he
    clear he
    exact V.iret hc hr dX12_heightOf_20 hw
  obtain ⟨g1, g2⟩ := q4
  refine V.icmp_ge hc (tgt := 11) dX12_heightOf_2 (by decide) g1 g2 (fun c6 => ?_) (fun c6 => ?_)
  · refine V.iload_n hc dX12_heightOf_11 rfl rfl ?_
    refine V.iload_n hc dX12_heightOf_12 rfl rfl ?_
    refine V.imul hc dX12_heightOf_13 ?_
    refine V.iload_n hc dX12_heightOf_14 rfl rfl ?_
    refine V.iload_n hc dX12_heightOf_15 rfl rfl ?_
    refine V.iload_n hc dX12_heightOf_16 rfl rfl ?_
    refine V.isub hc dX12_heightOf_17 ?_
    refine V.imul hc dX12_heightOf_18 ?_
    refine V.iadd hc dX12_heightOf_19 ?_
    refine V.drop (lo' := [(1, 0), (1, 0), (1, 0), (1, 0)]) ⟨Or.inl rfl, Or.inl rfl, Or.inl rfl, Or.inl rfl, trivial⟩ ?_
    exact kJ5 _ ⟨fun _ => rfl, (fun q => absurd c6 q)⟩
  · refine V.iload_n hc dX12_heightOf_5 rfl rfl ?_
    refine V.iload_n hc dX12_heightOf_6 rfl rfl ?_
    refine V.imul hc dX12_heightOf_7 ?_
    refine V.goto hc (tgt := 20) dX12_heightOf_8 (by decide) ?_
    refine V.drop (lo' := [(1, 0), (1, 0), (1, 0), (1, 0)]) ⟨Or.inl rfl, Or.inl rfl, Or.inl rfl, Or.inl rfl, trivial⟩ ?_
    exact kJ5 _ ⟨(fun q => absurd q c6), fun _ => rfl⟩
theorem tX12_overBy_84 {G : GG} {p : Program} {l : Launch} {e : Jvm.Env} {s : State} {m : MethodId} {args : Array Value} {below : List Frame} {meth : Method} {c : Code} {P : Int → HP → Prop} (hc : VC G p (rmD 9 0) s m args meth c RX12 cX12_overBy 8 9) (hr : meth.sig.returnType = some .int) {o : Int} {a1 : Int} {a2 : Int} {a3 : Int} {a4 : Int} {l5 : Int} {l6 : Int} {h : HP} {K18 : Int → Int → HP → Prop} (hK18 : ∀ (x5 : Int) (x6 : Int) (h : HP), K18 x5 x6 h → V G p l e (rmD 9 0) s m args below meth c (MQ below (QI G P) args s 0 0 (va_Aof G)) 8 18 [(22, o), (0, a1), (1, 0), (1, 0), (1, 0), (0, x5), (0, x6), (1, 0)] [] h 0) (hw : wX12_overBy_84 o a1 a2 a3 a4 l5 l6 K18 h) : V G p l e (rmD 9 0) s m args below meth c (MQ below (QI G P) args s 0 0 (va_Aof G)) 8 84 [(22, o), (0, a1), (1, 0), (1, 0), (1, 0), (0, l5), (0, l6), (1, 0)] [] h 0 := by
  refine V.iinc hc dX12_overBy_84 rfl rfl (lo' := [(22, o), (0, a1), (1, 0), (1, 0), (1, 0), (0, l5), (0, l6 + 1), (1, 0)]) rfl ?_
  refine V.goto hc (tgt := 18) dX12_overBy_87 (by decide) ?_
  exact hK18 _ _ _ hw
theorem tX12_overBy_18 {G : GG} {p : Program} {l : Launch} {e : Jvm.Env} {s : State} {m : MethodId} {args : Array Value} {below : List Frame} {meth : Method} {c : Code} {P : Int → HP → Prop} (hc : VC G p (rmD 9 0) s m args meth c RX12 cX12_overBy 8 9) (hr : meth.sig.returnType = some .int) {o : Int} {a1 : Int} {a2 : Int} {a3 : Int} {a4 : Int} {K90 : Int → HP → Prop} (hK90 : ∀ (x5 : Int) (h : HP), K90 x5 h → V G p l e (rmD 9 0) s m args below meth c (MQ below (QI G P) args s 0 0 (va_Aof G)) 8 90 [(1, 0), (1, 0), (1, 0), (1, 0), (1, 0), (0, x5), (1, 0), (1, 0)] [] h 0) : ∀ (f : Nat) (l5 : Int) (l6 : Int) (h : HP), wX12_overBy_18 o a1 a2 a3 a4 K90 f l5 l6 h → V G p l e (rmD 9 0) s m args below meth c (MQ below (QI G P) args s 0 0 (va_Aof G)) 8 18 [(22, o), (0, a1), (1, 0), (1, 0), (1, 0), (0, l5), (0, l6), (1, 0)] [] h 0 := by
  intro f
  induction f with
  | zero =>
    intro l5 l6 h hw
    exact hw.elim
  | succ f ih =>
    intro l5 l6 h hw
    refine V.iload hc dX12_overBy_18 rfl ?_
    refine V.aload_n (t := 12) hc dX12_overBy_20 rfl rfl ?_
    refine V.gR hc gR_X12_21 (i' := o) rfl dX12_overBy_21 ?_
    refine V.iconst hc dX12_overBy_24 ?_
    refine V.ald hc ak_49 (by omega) dX12_overBy_25 ?_
    obtain ⟨g3, hw⟩ := hw
    obtain ⟨g4, hw⟩ := hw
    refine V.icmp_ge hc (tgt := 90) dX12_overBy_26 (by decide) g3 g4 (fun c5 => ?_) (fun c5 => ?_)
    · replace hw := hw.1 c5
      refine V.drop (lo' := [(1, 0), (1, 0), (1, 0), (1, 0), (1, 0), (0, l5), (1, 0), (1, 0)]) ⟨Or.inl rfl, Or.inl rfl, Or.inr rfl, Or.inr rfl, Or.inr rfl, Or.inr rfl, Or.inl rfl, Or.inr rfl, trivial⟩ ?_
      exact hK90 _ _ hw
    · replace hw := hw.2 c5
      refine V.iload hc dX12_overBy_29 rfl ?_
      refine V.iconst hc dX12_overBy_31 ?_
      refine V.callSI hc (qX12_curveAt G l _ _ _ _ hw) mo_X12_curveAt ml_X12_245 (as := [(0, l6), (0, 0)]) rfl rfl rfl rfl rfl ⟨Nat.zero_le _, Nat.zero_le _⟩ dX12_overBy_32 (fun x7 h6 hw => ?_)
      refine V.istore hc dX12_overBy_35 rfl (lo' := [(22, o), (0, a1), (1, 0), (1, 0), (1, 0), (0, l5), (0, l6), (0, x7)]) rfl ?_
      refine V.aload_n (t := 12) hc dX12_overBy_37 rfl rfl ?_
      refine V.gR hc gR_X12_43 (i' := o) rfl dX12_overBy_38 ?_
      refine V.iload hc dX12_overBy_41 rfl ?_
      obtain ⟨g8, hw⟩ := hw
      refine V.ald hc ak_56 g8 dX12_overBy_43 ?_
      refine V.iconst hc dX12_overBy_44 ?_
      obtain ⟨g9, hw⟩ := hw
      refine V.icmp_ne hc (tgt := 84) dX12_overBy_45 (by decide) g9 (by omega) (fun c10 => ?_) (fun c10 => ?_)
      · replace hw := hw.1 c10
        refine V.drop (lo' := [(22, o), (0, a1), (1, 0), (1, 0), (1, 0), (0, l5), (0, l6), (1, 0)]) ⟨Or.inr rfl, Or.inr rfl, Or.inr rfl, Or.inr rfl, Or.inr rfl, Or.inr rfl, Or.inr rfl, Or.inl rfl, trivial⟩ ?_
        exact tX12_overBy_84 hc hr (fun y5 y6 hy hw => by exact ih _ _ _ hw) hw
      · replace hw := hw.2 c10
        refine V.iload hc dX12_overBy_48 rfl ?_
        refine V.aload_n (t := 12) hc dX12_overBy_50 rfl rfl ?_
        refine V.gR hc gR_X12_43 (i' := o) rfl dX12_overBy_51 ?_
        refine V.iload hc dX12_overBy_54 rfl ?_
        refine V.iconst hc dX12_overBy_56 ?_
        refine V.iadd hc dX12_overBy_57 ?_
        obtain ⟨g11, hw⟩ := hw
        refine V.ald hc ak_56 g11 dX12_overBy_58 ?_
        refine V.aload_n (t := 12) hc dX12_overBy_59 rfl rfl ?_
        refine V.gR hc gR_X12_43 (i' := o) rfl dX12_overBy_60 ?_
        refine V.iload hc dX12_overBy_63 rfl ?_
        refine V.iconst hc dX12_overBy_65 ?_
        refine V.iadd hc dX12_overBy_66 ?_
        obtain ⟨g12, hw⟩ := hw
        refine V.ald hc ak_56 g12 dX12_overBy_67 ?_
        refine V.aload_n (t := 12) hc dX12_overBy_68 rfl rfl ?_
        refine V.gR hc gR_X12_43 (i' := o) rfl dX12_overBy_69 ?_
        refine V.iload hc dX12_overBy_72 rfl ?_
        refine V.iconst hc dX12_overBy_74 ?_
        refine V.iadd hc dX12_overBy_75 ?_
        obtain ⟨g13, hw⟩ := hw
        refine V.ald hc ak_56 g13 dX12_overBy_76 ?_
        refine V.iload_n hc dX12_overBy_77 rfl rfl ?_
        refine V.callSI hc (qX12_heightOf G l _ _ _ _ _ _ hw) mo_X12_heightOf ml_X12_389 (as := [(0, h6 56 o (x7 + 1)), (0, h6 56 o (x7 + 2)), (0, h6 56 o (x7 + 3)), (0, a1)]) rfl rfl rfl rfl rfl ⟨Nat.zero_le _, Nat.zero_le _⟩ dX12_overBy_78 (fun x15 h14 hw => ?_)
        refine V.iadd hc dX12_overBy_81 ?_
        refine V.istore hc dX12_overBy_82 rfl (lo' := [(22, o), (0, a1), (1, 0), (1, 0), (1, 0), (0, l5 + x15), (0, l6), (0, x7)]) rfl ?_
        refine V.drop (lo' := [(22, o), (0, a1), (1, 0), (1, 0), (1, 0), (0, l5 + x15), (0, l6), (1, 0)]) ⟨Or.inr rfl, Or.inr rfl, Or.inr rfl, Or.inr rfl, Or.inr rfl, Or.inr rfl, Or.inr rfl, Or.inl rfl, trivial⟩ ?_
        exact tX12_overBy_84 hc hr (fun y5 y6 hy hw => by exact ih _ _ _ hw) hw
theorem qX12_overBy (G : GG) (l : Launch) (o : Int) (a1 : Int) (a2 : Int) (a3 : Int) (a4 : Int) (h : HP) (P : Int → HP → Prop) (hw : wX12_overBy o a1 a2 a3 a4 h P) : CnI l G yX12_overBy cX12_overBy 8 (some .int) 9 [(22, o), (0, a1), (0, a2), (0, a3), (0, a4)] h P := by
  refine CnI.of (lo := [(22, o), (0, a1), (0, a2), (0, a3), (0, a4), (1, 0), (1, 0), (1, 0)]) (by decide) rfl rfl rfl ?_
  intro p e s m args below meth c hc hr
  have hc : VC G p (rmD 9 0) s m args meth c RX12 cX12_overBy 8 9 := hc
  refine V.iload_n hc dX12_overBy_0 rfl rfl ?_
  refine V.iload_n hc dX12_overBy_1 rfl rfl ?_
  refine V.iload hc dX12_overBy_2 rfl ?_
  refine V.iload_n hc dX12_overBy_4 rfl rfl ?_
  refine V.callSI hc (qX12_heightOf G l _ _ _ _ _ _ hw) mo_X12_heightOf ml_X12_389 (as := [(0, a2), (0, a3), (0, a4), (0, a1)]) rfl rfl rfl rfl rfl ⟨Nat.zero_le _, Nat.zero_le _⟩ dX12_overBy_5 (fun x2 h1 hw => ?_)
  refine V.bipush hc dX12_overBy_8 (by decide) ?_
  refine V.iload_n hc dX12_overBy_10 rfl rfl ?_
  refine V.imul hc dX12_overBy_11 ?_
  refine V.isub hc dX12_overBy_12 ?_
  refine V.istore hc dX12_overBy_13 rfl (lo' := [(22, o), (0, a1), (0, a2), (0, a3), (0, a4), (0, x2 - (100 * a1)), (1, 0), (1, 0)]) rfl ?_
  refine V.iconst hc dX12_overBy_15 ?_
  refine V.istore hc dX12_overBy_16 rfl (lo' := [(22, o), (0, a1), (0, a2), (0, a3), (0, a4), (0, x2 - (100 * a1)), (0, 0), (1, 0)]) rfl ?_
  obtain ⟨f16, hw⟩ := hw
  refine V.drop (lo' := [(22, o), (0, a1), (1, 0), (1, 0), (1, 0), (0, x2 - (100 * a1)), (0, 0), (1, 0)]) ⟨Or.inr rfl, Or.inr rfl, Or.inl rfl, Or.inl rfl, Or.inl rfl, Or.inr rfl, Or.inr rfl, Or.inr rfl, trivial⟩ ?_
  refine tX12_overBy_18 hc hr ?_ f16 _ _ _ hw
  · intro l17 h18 hw
    refine V.iload hc dX12_overBy_90 rfl ?_
    exact V.iret hc hr dX12_overBy_92 hw
theorem tX12_firstOver_3 {G : GG} {p : Program} {l : Launch} {e : Jvm.Env} {s : State} {m : MethodId} {args : Array Value} {below : List Frame} {meth : Method} {c : Code} {P : Int → HP → Prop} (hc : VC G p (rmD 10 0) s m args meth c RX12 cX12_firstOver 5 10) (hr : meth.sig.returnType = some .int) {o : Int} {a1 : Int} {a2 : Int} {a3 : Int} {K32 : HP → Prop} {K23 : Int → HP → Prop} (hK32 : ∀  (h : HP), K32  h → V G p l e (rmD 10 0) s m args below meth c (MQ below (QI G P) args s 0 0 (va_Aof G)) 5 32 [(1, 0), (1, 0), (1, 0), (1, 0), (1, 0)] [] h 0) (hK23 : ∀ (x4 : Int) (h : HP), K23 x4 h → V G p l e (rmD 10 0) s m args below meth c (MQ below (QI G P) args s 0 0 (va_Aof G)) 5 23 [(1, 0), (1, 0), (1, 0), (1, 0), (0, x4)] [] h 0) : ∀ (f : Nat) (l4 : Int) (h : HP), wX12_firstOver_3 o a1 a2 a3 K32 K23 f l4 h → V G p l e (rmD 10 0) s m args below meth c (MQ below (QI G P) args s 0 0 (va_Aof G)) 5 3 [(22, o), (0, a1), (0, a2), (0, a3), (0, l4)] [] h 0 := by
  intro f
  induction f with
  | zero =>
    intro l4 h hw
    exact hw.elim
  | succ f ih =>
    intro l4 h hw
    refine V.iload hc dX12_firstOver_3 rfl ?_
    refine V.sipush hc dX12_firstOver_5 (by decide) ?_
    obtain ⟨g1, hw⟩ := hw
    refine V.icmp_gt hc (tgt := 32) dX12_firstOver_8 (by decide) g1 (by omega) (fun c2 => ?_) (fun c2 => ?_)
    · replace hw := hw.1 c2
      refine V.drop (lo' := [(1, 0), (1, 0), (1, 0), (1, 0), (1, 0)]) ⟨Or.inl rfl, Or.inl rfl, Or.inl rfl, Or.inl rfl, Or.inl rfl, trivial⟩ ?_
      exact hK32 _ hw
    · replace hw := hw.2 c2
      refine V.aload_n (t := 12) hc dX12_firstOver_11 rfl rfl ?_
      refine V.iload hc dX12_firstOver_12 rfl ?_
      refine V.iload_n hc dX12_firstOver_14 rfl rfl ?_
      refine V.iload_n hc dX12_firstOver_15 rfl rfl ?_
      refine V.iload_n hc dX12_firstOver_16 rfl rfl ?_
      refine V.callVI hc (qX12_overBy G l _ _ _ _ _ _ _ hw) mo_X12_overBy ml_X12_392 (by rfl) rfl rfl (as := [(0, l4), (0, a1), (0, a2), (0, a3)]) rfl rfl rfl rfl rfl ⟨Nat.zero_le _, Nat.zero_le _⟩ dX12_firstOver_17 (fun x4 h3 hw => ?_)
      obtain ⟨g5, hw⟩ := hw
      refine V.if_le hc (tgt := 26) dX12_firstOver_20 (by decide) g5 (fun c6 => ?_) (fun c6 => ?_)
      · replace hw := hw.1 c6
        refine V.iinc hc dX12_firstOver_26 rfl rfl (lo' := [(22, o), (0, a1), (0, a2), (0, a3), (0, l4 + 1)]) rfl ?_
        refine V.goto hc (tgt := 3) dX12_firstOver_29 (by decide) ?_
        exact ih _ _ hw
      · replace hw := hw.2 c6
        refine V.drop (lo' := [(1, 0), (1, 0), (1, 0), (1, 0), (0, l4)]) ⟨Or.inl rfl, Or.inl rfl, Or.inl rfl, Or.inl rfl, Or.inr rfl, trivial⟩ ?_
        exact hK23 _ _ hw
theorem qX12_firstOver (G : GG) (l : Launch) (o : Int) (a1 : Int) (a2 : Int) (a3 : Int) (h : HP) (P : Int → HP → Prop) (hw : wX12_firstOver o a1 a2 a3 h P) : CnI l G yX12_firstOver cX12_firstOver 5 (some .int) 10 [(22, o), (0, a1), (0, a2), (0, a3)] h P := by
  refine CnI.of (lo := [(22, o), (0, a1), (0, a2), (0, a3), (1, 0)]) (by decide) rfl rfl rfl ?_
  intro p e s m args below meth c hc hr
  have hc : VC G p (rmD 10 0) s m args meth c RX12 cX12_firstOver 5 10 := hc
  refine V.iconst hc dX12_firstOver_0 ?_
  refine V.istore hc dX12_firstOver_1 rfl (lo' := [(22, o), (0, a1), (0, a2), (0, a3), (0, 0)]) rfl ?_
  obtain ⟨f7, hw⟩ := hw
  refine tX12_firstOver_3 hc hr ?_ ?_ f7 _ _ hw
  · intro h8 hw
    refine V.iconst hc dX12_firstOver_32 ?_
    exact V.iret hc hr dX12_firstOver_33 hw
  · intro l9 h10 hw
    refine V.iload hc dX12_firstOver_23 rfl ?_
    exact V.iret hc hr dX12_firstOver_25 hw
theorem qX12_together (G : GG) (l : Launch) (o : Int) (a1 : Int) (h : HP) (P : Int → HP → Prop) (hw : wX12_together o a1 h P) : CnI l G yX12_together cX12_together 3 (some .int) 11 [(22, o), (0, a1)] h P := by
  refine CnI.of (lo := [(22, o), (0, a1), (1, 0)]) (by decide) rfl rfl rfl ?_
  intro p e s m args below meth c hc hr
  have hc : VC G p (rmD 11 0) s m args meth c RX12 cX12_together 3 11 := hc
  refine V.aload_n (t := 12) hc dX12_together_0 rfl rfl ?_
  refine V.iconst hc dX12_together_1 ?_
  refine V.pI hc pI_X12_118 rfl dX12_together_2 (fun h1 e => ?_)
  replace hw := hw h1 e
  clear e
  refine V.iload_n hc dX12_together_5 rfl rfl ?_
  refine V.iconst hc dX12_together_6 ?_
  refine V.iconst hc dX12_together_7 ?_
  refine V.callSI hc (qX12_isIn G l _ _ _ _ _ hw) mo_X12_isIn ml_X12_356 (as := [(0, a1), (0, 0), (0, 2)]) rfl rfl rfl rfl rfl ⟨Nat.zero_le _, Nat.zero_le _⟩ dX12_together_8 (fun x3 h2 hw => ?_)
  obtain ⟨g4, hw⟩ := hw
  refine V.if_ne hc (tgt := 20) dX12_together_11 (by decide) g4 (fun c5 => ?_) (fun c5 => ?_)
  · replace hw := hw.1 c5
    refine V.aload_n (t := 12) hc dX12_together_20 rfl rfl ?_
    refine V.iconst hc dX12_together_21 ?_
    refine V.iconst hc dX12_together_22 ?_
    refine V.iconst hc dX12_together_23 ?_
    refine V.callVI hc (qX12_firstOver G l _ _ _ _ _ _ hw) mo_X12_firstOver ml_X12_395 (by rfl) rfl rfl (as := [(0, 0), (0, 0), (0, 0)]) rfl rfl rfl rfl rfl ⟨Nat.zero_le _, Nat.zero_le _⟩ dX12_together_24 (fun x7 h6 hw => ?_)
    refine V.istore_n hc dX12_together_27 rfl rfl (lo' := [(22, o), (0, a1), (0, x7)]) rfl ?_
    refine V.iload_n hc dX12_together_28 rfl rfl ?_
    obtain ⟨g8, hw⟩ := hw
    refine V.if_ne hc (tgt := 45) dX12_together_29 (by decide) g8 (fun c9 => ?_) (fun c9 => ?_)
    · replace hw := hw.1 c9
      refine V.iload_n hc dX12_together_45 rfl rfl ?_
      refine V.iconst hc dX12_together_46 ?_
      obtain ⟨g10, hw⟩ := hw
      refine V.icmp_ne hc (tgt := 54) dX12_together_47 (by decide) g10 (by omega) (fun c11 => ?_) (fun c11 => ?_)
      · replace hw := hw.1 c11
        refine V.iload_n hc dX12_together_54 rfl rfl ?_
        refine V.iconst hc dX12_together_55 ?_
        obtain ⟨g12, hw⟩ := hw
        refine V.icmp_ne hc (tgt := 63) dX12_together_56 (by decide) g12 (by omega) (fun c13 => ?_) (fun c13 => ?_)
        · replace hw := hw.1 c13
          refine V.aload_n (t := 12) hc dX12_together_63 rfl rfl ?_
          refine V.iload_n hc dX12_together_64 rfl rfl ?_
          refine V.iconst hc dX12_together_65 ?_
          refine V.iconst hc dX12_together_66 ?_
          refine V.iconst hc dX12_together_67 ?_
          refine V.callVI hc (qX12_overBy G l _ _ _ _ _ _ _ hw) mo_X12_overBy ml_X12_392 (by rfl) rfl rfl (as := [(0, x7), (0, 0), (0, 0), (0, 0)]) rfl rfl rfl rfl rfl ⟨Nat.zero_le _, Nat.zero_le _⟩ dX12_together_68 (fun x15 h14 hw => ?_)
          exact V.iret hc hr dX12_together_71 hw
        · replace hw := hw.2 c13
          refine V.iconst hc dX12_together_59 ?_
          refine V.goto hc (tgt := 71) dX12_together_60 (by decide) ?_
          exact V.iret hc hr dX12_together_71 hw
      · replace hw := hw.2 c11
        refine V.iload_n hc dX12_together_50 rfl rfl ?_
        refine V.goto hc (tgt := 71) dX12_together_51 (by decide) ?_
        exact V.iret hc hr dX12_together_71 hw
    · replace hw := hw.2 c9
      refine V.iload_n hc dX12_together_32 rfl rfl ?_
      refine V.iconst hc dX12_together_33 ?_
      obtain ⟨q18, hw⟩ := hw
      have kJ19 : ∀ t17 : Int, ((¬ x7 = (-1) → t17 = 0) ∧ (x7 = (-1) → t17 = 1)) → V G p l e (rmD 11 0) s m args below meth c (MQ below (QI G P) args s 0 0 (va_Aof G)) 3 71 [(1, 0), (1, 0), (1, 0)] [(0, t17)] h6 0 := by
        intro t17 he
        replace hw := hw t17 he
        clear he
        exact V.iret hc hr dX12_together_71 hw
      have g16 := q18
      refine V.icmp_ne hc (tgt := 41) dX12_together_34 (by decide) g16 (by omega) (fun c20 => ?_) (fun c20 => ?_)
      · refine V.iconst hc dX12_together_41 ?_
        refine V.goto hc (tgt := 71) dX12_together_42 (by decide) ?_
        refine V.drop (lo' := [(1, 0), (1, 0), (1, 0)]) ⟨Or.inl rfl, Or.inl rfl, Or.inl rfl, trivial⟩ ?_
        exact kJ19 _ ⟨fun _ => rfl, (fun q => absurd q c20)⟩
      · refine V.iconst hc dX12_together_37 ?_
        refine V.goto hc (tgt := 71) dX12_together_38 (by decide) ?_
        refine V.drop (lo' := [(1, 0), (1, 0), (1, 0)]) ⟨Or.inl rfl, Or.inl rfl, Or.inl rfl, trivial⟩ ?_
        exact kJ19 _ ⟨(fun q => absurd c20 q), fun _ => rfl⟩
  · replace hw := hw.2 c5
    refine V.aload_n (t := 12) hc dX12_together_14 rfl rfl ?_
    refine V.iconst hc dX12_together_15 ?_
    refine V.callVI hc (qX12_fail G l _ _ _ _ hw) mo_X12_fail ml_X12_219 (by rfl) rfl rfl (as := [(0, 1)]) rfl rfl rfl rfl rfl ⟨Nat.zero_le _, Nat.zero_le _⟩ dX12_together_16 (fun x22 h21 hw => ?_)
    exact V.iret hc hr dX12_together_19 hw
theorem tX12_toGrant_36 {G : GG} {p : Program} {l : Launch} {e : Jvm.Env} {s : State} {m : MethodId} {args : Array Value} {below : List Frame} {meth : Method} {c : Code} {P : Int → HP → Prop} (hc : VC G p (rmD 11 0) s m args meth c RX12 cX12_toGrant 5 11) (hr : meth.sig.returnType = some .int) {o : Int} {a1 : Int} {a2 : Int} {K68 : Int → HP → Prop} (hK68 : ∀ (x3 : Int) (h : HP), K68 x3 h → V G p l e (rmD 11 0) s m args below meth c (MQ below (QI G P) args s 0 0 (va_Aof G)) 5 68 [(1, 0), (1, 0), (1, 0), (0, x3), (1, 0)] [] h 0) : ∀ (f : Nat) (l3 : Int) (l4 : Int) (h : HP), wX12_toGrant_36 o a1 a2 K68 f l3 l4 h → V G p l e (rmD 11 0) s m args below meth c (MQ below (QI G P) args s 0 0 (va_Aof G)) 5 36 [(22, o), (0, a1), (0, a2), (0, l3), (0, l4)] [] h 0 := by
  intro f
  induction f with
  | zero =>
    intro l3 l4 h hw
    exact hw.elim
  | succ f ih =>
    intro l3 l4 h hw
    refine V.iload hc dX12_toGrant_36 rfl ?_
    refine V.bipush hc dX12_toGrant_38 (by decide) ?_
    obtain ⟨g12, hw⟩ := hw
    refine V.icmp_gt hc (tgt := 68) dX12_toGrant_40 (by decide) g12 (by omega) (fun c13 => ?_) (fun c13 => ?_)
    · replace hw := hw.1 c13
      refine V.drop (lo' := [(1, 0), (1, 0), (1, 0), (0, l3), (1, 0)]) ⟨Or.inl rfl, Or.inl rfl, Or.inl rfl, Or.inr rfl, Or.inl rfl, trivial⟩ ?_
      exact hK68 _ _ hw
    · replace hw := hw.2 c13
      refine V.aload_n (t := 12) hc dX12_toGrant_43 rfl rfl ?_
      refine V.iload hc dX12_toGrant_44 rfl ?_
      refine V.iload_n hc dX12_toGrant_46 rfl rfl ?_
      refine V.iload_n hc dX12_toGrant_47 rfl rfl ?_
      refine V.callVI hc (qX12_firstOver G l _ _ _ _ _ _ hw) mo_X12_firstOver ml_X12_395 (by rfl) rfl rfl (as := [(0, l4), (0, a1), (0, a2)]) rfl rfl rfl rfl rfl ⟨Nat.zero_le _, Nat.zero_le _⟩ dX12_toGrant_48 (fun x15 h14 hw => ?_)
      refine V.iconst hc dX12_toGrant_51 ?_
      obtain ⟨q18, hw⟩ := hw
      have kJ19 : ∀ t17 : Int, ((¬ x15 = (-1) → t17 = l3) ∧ (x15 = (-1) → t17 = l4)) → V G p l e (rmD 11 0) s m args below meth c (MQ below (QI G P) args s 0 0 (va_Aof G)) 5 61 [(22, o), (0, a1), (0, a2), (1, 0), (0, l4)] [(0, t17)] h14 0 := by
        intro t17 he
        replace hw := hw t17 he
        clear he
        refine V.istore_n hc dX12_toGrant_61 rfl rfl (lo' := [(22, o), (0, a1), (0, a2), (0, t17), (0, l4)]) rfl ?_
        refine V.iinc hc dX12_toGrant_62 rfl rfl (lo' := [(22, o), (0, a1), (0, a2), (0, t17), (0, l4 + 1)]) rfl ?_
        refine V.goto hc (tgt := 36) dX12_toGrant_65 (by decide) ?_
        exact ih _ _ _ hw
      have g16 := q18
      refine V.icmp_ne hc (tgt := 60) dX12_toGrant_52 (by decide) g16 (by omega) (fun c20 => ?_) (fun c20 => ?_)
      · refine V.iload_n hc dX12_toGrant_60 rfl rfl ?_
        refine V.drop (lo' := [(22, o), (0, a1), (0, a2), (1, 0), (0, l4)]) ⟨Or.inr rfl, Or.inr rfl, Or.inr rfl, Or.inl rfl, Or.inr rfl, trivial⟩ ?_
        exact kJ19 _ ⟨fun _ => rfl, (fun q => absurd q c20)⟩
      · refine V.iload hc dX12_toGrant_55 rfl ?_
        refine V.goto hc (tgt := 61) dX12_toGrant_57 (by decide) ?_
        refine V.drop (lo' := [(22, o), (0, a1), (0, a2), (1, 0), (0, l4)]) ⟨Or.inr rfl, Or.inr rfl, Or.inr rfl, Or.inl rfl, Or.inr rfl, trivial⟩ ?_
        exact kJ19 _ ⟨(fun q => absurd c20 q), fun _ => rfl⟩
theorem qX12_toGrant (G : GG) (l : Launch) (o : Int) (a1 : Int) (a2 : Int) (h : HP) (P : Int → HP → Prop) (hw : wX12_toGrant o a1 a2 h P) : CnI l G yX12_toGrant cX12_toGrant 5 (some .int) 11 [(22, o), (0, a1), (0, a2)] h P := by
  refine CnI.of (lo := [(22, o), (0, a1), (0, a2), (1, 0), (1, 0)]) (by decide) rfl rfl rfl ?_
  intro p e s m args below meth c hc hr
  have hc : VC G p (rmD 11 0) s m args meth c RX12 cX12_toGrant 5 11 := hc
  refine V.aload_n (t := 12) hc dX12_toGrant_0 rfl rfl ?_
  refine V.iconst hc dX12_toGrant_1 ?_
  refine V.pI hc pI_X12_118 rfl dX12_toGrant_2 (fun h1 e => ?_)
  replace hw := hw h1 e
  clear e
  refine V.iload_n hc dX12_toGrant_5 rfl rfl ?_
  refine V.iconst hc dX12_toGrant_6 ?_
  refine V.bipush hc dX12_toGrant_7 (by decide) ?_
  refine V.callSI hc (qX12_isIn G l _ _ _ _ _ hw) mo_X12_isIn ml_X12_356 (as := [(0, a1), (0, 0), (0, 30)]) rfl rfl rfl rfl rfl ⟨Nat.zero_le _, Nat.zero_le _⟩ dX12_toGrant_9 (fun x3 h2 hw => ?_)
  obtain ⟨g4, hw⟩ := hw
  refine V.if_eq hc (tgt := 25) dX12_toGrant_12 (by decide) g4 (fun c5 => ?_) (fun c5 => ?_)
  · replace hw := hw.1 c5
    refine V.aload_n (t := 12) hc dX12_toGrant_25 rfl rfl ?_
    refine V.iconst hc dX12_toGrant_26 ?_
    refine V.callVI hc (qX12_fail G l _ _ _ _ hw) mo_X12_fail ml_X12_219 (by rfl) rfl rfl (as := [(0, 1)]) rfl rfl rfl rfl rfl ⟨Nat.zero_le _, Nat.zero_le _⟩ dX12_toGrant_27 (fun x7 h6 hw => ?_)
    exact V.iret hc hr dX12_toGrant_30 hw
  · replace hw := hw.2 c5
    refine V.iload_n hc dX12_toGrant_15 rfl rfl ?_
    refine V.iconst hc dX12_toGrant_16 ?_
    refine V.bipush hc dX12_toGrant_17 (by decide) ?_
    refine V.callSI hc (qX12_isIn G l _ _ _ _ _ hw) mo_X12_isIn ml_X12_356 (as := [(0, a2), (0, 1), (0, 100)]) rfl rfl rfl rfl rfl ⟨Nat.zero_le _, Nat.zero_le _⟩ dX12_toGrant_19 (fun x9 h8 hw => ?_)
    obtain ⟨g10, hw⟩ := hw
    refine V.if_ne hc (tgt := 31) dX12_toGrant_22 (by decide) g10 (fun c11 => ?_) (fun c11 => ?_)
    · replace hw := hw.1 c11
      refine V.iconst hc dX12_toGrant_31 ?_
      refine V.istore_n hc dX12_toGrant_32 rfl rfl (lo' := [(22, o), (0, a1), (0, a2), (0, (-1)), (1, 0)]) rfl ?_
      refine V.iconst hc dX12_toGrant_33 ?_
      refine V.istore hc dX12_toGrant_34 rfl (lo' := [(22, o), (0, a1), (0, a2), (0, (-1)), (0, 0)]) rfl ?_
      obtain ⟨f21, hw⟩ := hw
      refine tX12_toGrant_36 hc hr ?_ f21 _ _ _ hw
      · intro l22 h23 hw
        refine V.iload_n hc dX12_toGrant_68 rfl rfl ?_
        exact V.iret hc hr dX12_toGrant_69 hw
    · replace hw := hw.2 c11
      refine V.aload_n (t := 12) hc dX12_toGrant_25 rfl rfl ?_
      refine V.iconst hc dX12_toGrant_26 ?_
      refine V.callVI hc (qX12_fail G l _ _ _ _ hw) mo_X12_fail ml_X12_219 (by rfl) rfl rfl (as := [(0, 1)]) rfl rfl rfl rfl rfl ⟨Nat.zero_le _, Nat.zero_le _⟩ dX12_toGrant_27 (fun x25 h24 hw => ?_)
      exact V.iret hc hr dX12_toGrant_30 hw
theorem qX12_bound (G : GG) (l : Launch) (o : Int) (a1 : Int) (a2 : Int) (h : HP) (P : Int → HP → Prop) (hw : wX12_bound o a1 a2 h P) : CnI l G yX12_bound cX12_bound 4 (some .int) 10 [(22, o), (0, a1), (0, a2)] h P := by
  refine CnI.of (lo := [(22, o), (0, a1), (0, a2), (1, 0)]) (by decide) rfl rfl rfl ?_
  intro p e s m args below meth c hc hr
  have hc : VC G p (rmD 10 0) s m args meth c RX12 cX12_bound 4 10 := hc
  refine V.aload_n (t := 12) hc dX12_bound_0 rfl rfl ?_
  refine V.iconst hc dX12_bound_1 ?_
  refine V.pI hc pI_X12_118 rfl dX12_bound_2 (fun h1 e => ?_)
  replace hw := hw h1 e
  clear e
  refine V.aload_n (t := 12) hc dX12_bound_5 rfl rfl ?_
  refine V.iload_n hc dX12_bound_6 rfl rfl ?_
  refine V.callVI hc (qX12_isClass G l _ _ _ _ hw) mo_X12_isClass ml_X12_360 (by rfl) rfl rfl (as := [(0, a1)]) rfl rfl rfl rfl rfl ⟨Nat.zero_le _, Nat.zero_le _⟩ dX12_bound_7 (fun x3 h2 hw => ?_)
  obtain ⟨g4, hw⟩ := hw
  refine V.if_eq hc (tgt := 22) dX12_bound_10 (by decide) g4 (fun c5 => ?_) (fun c5 => ?_)
  · replace hw := hw.1 c5
    refine V.aload_n (t := 12) hc dX12_bound_22 rfl rfl ?_
    refine V.iconst hc dX12_bound_23 ?_
    refine V.callVI hc (qX12_fail G l _ _ _ _ hw) mo_X12_fail ml_X12_219 (by rfl) rfl rfl (as := [(0, 1)]) rfl rfl rfl rfl rfl ⟨Nat.zero_le _, Nat.zero_le _⟩ dX12_bound_24 (fun x7 h6 hw => ?_)
    exact V.iret hc hr dX12_bound_27 hw
  · replace hw := hw.2 c5
    refine V.aload_n (t := 12) hc dX12_bound_13 rfl rfl ?_
    refine V.iload_n hc dX12_bound_14 rfl rfl ?_
    refine V.iconst hc dX12_bound_15 ?_
    refine V.callVI hc (qX12_hasCurve G l _ _ _ _ _ hw) mo_X12_hasCurve ml_X12_283 (by rfl) rfl rfl (as := [(0, a1), (0, 0)]) rfl rfl rfl rfl rfl ⟨Nat.zero_le _, Nat.zero_le _⟩ dX12_bound_16 (fun x9 h8 hw => ?_)
    obtain ⟨g10, hw⟩ := hw
    refine V.if_ne hc (tgt := 28) dX12_bound_19 (by decide) g10 (fun c11 => ?_) (fun c11 => ?_)
    · replace hw := hw.1 c11
      refine V.iload_n hc dX12_bound_28 rfl rfl ?_
      refine V.iconst hc dX12_bound_29 ?_
      refine V.callSI hc (qX12_curveAt G l _ _ _ _ hw) mo_X12_curveAt ml_X12_245 (as := [(0, a1), (0, 0)]) rfl rfl rfl rfl rfl ⟨Nat.zero_le _, Nat.zero_le _⟩ dX12_bound_30 (fun x13 h12 hw => ?_)
      refine V.istore_n hc dX12_bound_33 rfl rfl (lo' := [(22, o), (0, a1), (0, a2), (0, x13)]) rfl ?_
      refine V.iload_n hc dX12_bound_34 rfl rfl ?_
      refine V.iconst hc dX12_bound_35 ?_
      refine V.sipush hc dX12_bound_36 (by decide) ?_
      refine V.callSI hc (qX12_isIn G l _ _ _ _ _ hw) mo_X12_isIn ml_X12_356 (as := [(0, a2), (0, 1), (0, 999)]) rfl rfl rfl rfl rfl ⟨Nat.zero_le _, Nat.zero_le _⟩ dX12_bound_39 (fun x15 h14 hw => ?_)
      obtain ⟨g16, hw⟩ := hw
      refine V.if_eq hc (tgt := 81) dX12_bound_42 (by decide) g16 (fun c17 => ?_) (fun c17 => ?_)
      · replace hw := hw.1 c17
        refine V.aload_n (t := 12) hc dX12_bound_81 rfl rfl ?_
        refine V.iconst hc dX12_bound_82 ?_
        refine V.callVI hc (qX12_fail G l _ _ _ _ hw) mo_X12_fail ml_X12_219 (by rfl) rfl rfl (as := [(0, 2)]) rfl rfl rfl rfl rfl ⟨Nat.zero_le _, Nat.zero_le _⟩ dX12_bound_83 (fun x19 h18 hw => ?_)
        exact V.iret hc hr dX12_bound_86 hw
      · replace hw := hw.2 c17
        refine V.aload_n (t := 12) hc dX12_bound_45 rfl rfl ?_
        refine V.gR hc gR_X12_43 (i' := o) rfl dX12_bound_46 ?_
        refine V.iload_n hc dX12_bound_49 rfl rfl ?_
        refine V.iconst hc dX12_bound_50 ?_
        refine V.iadd hc dX12_bound_51 ?_
        obtain ⟨g20, hw⟩ := hw
        refine V.ald hc ak_56 g20 dX12_bound_52 ?_
        refine V.aload_n (t := 12) hc dX12_bound_53 rfl rfl ?_
        refine V.gR hc gR_X12_43 (i' := o) rfl dX12_bound_54 ?_
        refine V.iload_n hc dX12_bound_57 rfl rfl ?_
        refine V.iconst hc dX12_bound_58 ?_
        refine V.iadd hc dX12_bound_59 ?_
        obtain ⟨g21, hw⟩ := hw
        refine V.ald hc ak_56 g21 dX12_bound_60 ?_
        refine V.aload_n (t := 12) hc dX12_bound_61 rfl rfl ?_
        refine V.gR hc gR_X12_43 (i' := o) rfl dX12_bound_62 ?_
        refine V.iload_n hc dX12_bound_65 rfl rfl ?_
        refine V.iconst hc dX12_bound_66 ?_
        refine V.iadd hc dX12_bound_67 ?_
        obtain ⟨g22, hw⟩ := hw
        refine V.ald hc ak_56 g22 dX12_bound_68 ?_
        refine V.iconst hc dX12_bound_69 ?_
        refine V.iconst hc dX12_bound_70 ?_
        refine V.iload_n hc dX12_bound_71 rfl rfl ?_
        refine V.callSI hc (qX12_reach G l _ _ _ _ _ _ _ _ hw) mo_X12_reach ml_X12_251 (as := [(0, h14 56 o (x13 + 1)), (0, h14 56 o (x13 + 2)), (0, h14 56 o (x13 + 3)), (0, 0), (0, 0), (0, a2)]) rfl rfl rfl rfl rfl ⟨Nat.zero_le _, Nat.zero_le _⟩ dX12_bound_72 (fun x24 h23 hw => ?_)
        refine V.bipush hc dX12_bound_75 (by decide) ?_
        refine V.iadd hc dX12_bound_77 ?_
        refine V.goto hc (tgt := 86) dX12_bound_78 (by decide) ?_
        exact V.iret hc hr dX12_bound_86 hw
    · replace hw := hw.2 c11
      refine V.aload_n (t := 12) hc dX12_bound_22 rfl rfl ?_
      refine V.iconst hc dX12_bound_23 ?_
      refine V.callVI hc (qX12_fail G l _ _ _ _ hw) mo_X12_fail ml_X12_219 (by rfl) rfl rfl (as := [(0, 1)]) rfl rfl rfl rfl rfl ⟨Nat.zero_le _, Nat.zero_le _⟩ dX12_bound_24 (fun x26 h25 hw => ?_)
      exact V.iret hc hr dX12_bound_27 hw
theorem qX12_rememberNow (G : GG) (l : Launch) (o : Int) (h : HP) (P : HP → Prop) (hw : wX12_rememberNow o h P) : CnV l G yX12_rememberNow cX12_rememberNow 1 9 [(22, o)] h P := by
  refine CnV.of (lo := [(22, o)]) (by decide) rfl rfl rfl ?_
  intro p e s m args below meth c hc hr
  have hc : VC G p (rmD 9 0) s m args meth c RX12 cX12_rememberNow 1 9 := hc
  refine V.aload_n (t := 12) hc dX12_rememberNow_0 rfl rfl ?_
  refine V.gR hc gR_X12_76 (i' := o) rfl dX12_rememberNow_1 ?_
  refine V.aload_n (t := 12) hc dX12_rememberNow_4 rfl rfl ?_
  refine V.gR hc gR_X12_43 (i' := o) rfl dX12_rememberNow_5 ?_
  refine V.callSV hc (qX12_copyTo G l _ _ _ _ _ _ hw) mo_X12_copyTo ml_X12_398 (as := [(73, o), (66, o)]) rfl rfl rfl rfl rfl ⟨Nat.zero_le _, Nat.zero_le _⟩ dX12_rememberNow_8 (fun h1 hw => ?_)
  exact V.vret hc hr dX12_rememberNow_11 hw
theorem qX12_back (G : GG) (l : Launch) (o : Int) (a1 : Int) (h : HP) (P : Int → HP → Prop) (hw : wX12_back o a1 h P) : CnI l G yX12_back cX12_back 2 (some .int) 9 [(22, o), (0, a1)] h P := by
  refine CnI.of (lo := [(22, o), (0, a1)]) (by decide) rfl rfl rfl ?_
  intro p e s m args below meth c hc hr
  have hc : VC G p (rmD 9 0) s m args meth c RX12 cX12_back 2 9 := hc
  refine V.aload_n (t := 12) hc dX12_back_0 rfl rfl ?_
  refine V.gR hc gR_X12_43 (i' := o) rfl dX12_back_1 ?_
  refine V.aload_n (t := 12) hc dX12_back_4 rfl rfl ?_
  refine V.gR hc gR_X12_76 (i' := o) rfl dX12_back_5 ?_
  refine V.callSV hc (qX12_copyTo G l _ _ _ _ _ _ hw) mo_X12_copyTo ml_X12_398 (as := [(66, o), (73, o)]) rfl rfl rfl rfl rfl ⟨Nat.zero_le _, Nat.zero_le _⟩ dX12_back_8 (fun h1 hw => ?_)
  refine V.iload_n hc dX12_back_11 rfl rfl ?_
  exact V.iret hc hr dX12_back_12 hw
theorem qX12_then (G : GG) (l : Launch) (o : Int) (a1 : Int) (a2 : Int) (a3 : Int) (h : HP) (P : Int → HP → Prop) (hw : wX12_then o a1 a2 a3 h P) : CnI l G yX12_then cX12_then 5 (some .int) 41 [(22, o), (0, a1), (0, a2), (0, a3)] h P := by
  refine CnI.of (lo := [(22, o), (0, a1), (0, a2), (0, a3), (1, 0)]) (by decide) rfl rfl rfl ?_
  intro p e s m args below meth c hc hr
  have hc : VC G p (rmD 41 0) s m args meth c RX12 cX12_then 5 41 := hc
  refine V.aload_n (t := 12) hc dX12_then_0 rfl rfl ?_
  refine V.iconst hc dX12_then_1 ?_
  refine V.pI hc pI_X12_118 rfl dX12_then_2 (fun h1 e => ?_)
  replace hw := hw h1 e
  clear e
  refine V.aload_n (t := 12) hc dX12_then_5 rfl rfl ?_
  refine V.iload_n hc dX12_then_6 rfl rfl ?_
  refine V.callVI hc (qX12_isClass G l _ _ _ _ hw) mo_X12_isClass ml_X12_360 (by rfl) rfl rfl (as := [(0, a1)]) rfl rfl rfl rfl rfl ⟨Nat.zero_le _, Nat.zero_le _⟩ dX12_then_7 (fun x3 h2 hw => ?_)
  obtain ⟨g4, hw⟩ := hw
  refine V.if_eq hc (tgt := 22) dX12_then_10 (by decide) g4 (fun c5 => ?_) (fun c5 => ?_)
  · replace hw := hw.1 c5
    refine V.aload_n (t := 12) hc dX12_then_22 rfl rfl ?_
    refine V.iconst hc dX12_then_23 ?_
    refine V.callVI hc (qX12_fail G l _ _ _ _ hw) mo_X12_fail ml_X12_219 (by rfl) rfl rfl (as := [(0, 1)]) rfl rfl rfl rfl rfl ⟨Nat.zero_le _, Nat.zero_le _⟩ dX12_then_24 (fun x7 h6 hw => ?_)
    exact V.iret hc hr dX12_then_27 hw
  · replace hw := hw.2 c5
    refine V.iload_n hc dX12_then_13 rfl rfl ?_
    refine V.iconst hc dX12_then_14 ?_
    refine V.iconst hc dX12_then_15 ?_
    refine V.callSI hc (qX12_isIn G l _ _ _ _ _ hw) mo_X12_isIn ml_X12_356 (as := [(0, a3), (0, 0), (0, 5)]) rfl rfl rfl rfl rfl ⟨Nat.zero_le _, Nat.zero_le _⟩ dX12_then_16 (fun x9 h8 hw => ?_)
    obtain ⟨g10, hw⟩ := hw
    refine V.if_ne hc (tgt := 28) dX12_then_19 (by decide) g10 (fun c11 => ?_) (fun c11 => ?_)
    · replace hw := hw.1 c11
      refine V.iload_n hc dX12_then_28 rfl rfl ?_
      refine V.iconst hc dX12_then_29 ?_
      refine V.sipush hc dX12_then_30 (by decide) ?_
      refine V.callSI hc (qX12_isIn G l _ _ _ _ _ hw) mo_X12_isIn ml_X12_356 (as := [(0, a2), (0, 0), (0, 400)]) rfl rfl rfl rfl rfl ⟨Nat.zero_le _, Nat.zero_le _⟩ dX12_then_33 (fun x13 h12 hw => ?_)
      obtain ⟨g14, hw⟩ := hw
      refine V.if_ne hc (tgt := 45) dX12_then_36 (by decide) g14 (fun c15 => ?_) (fun c15 => ?_)
      · replace hw := hw.1 c15
        refine V.aload_n (t := 12) hc dX12_then_45 rfl rfl ?_
        refine V.callVV hc (qX12_rememberNow G l _ _ _ hw) mo_X12_rememberNow ml_X12_402 (by rfl) rfl rfl (as := []) rfl rfl rfl rfl rfl ⟨Nat.zero_le _, Nat.zero_le _⟩ dX12_then_46 (fun h16 hw => ?_)
        refine V.aload_n (t := 12) hc dX12_then_49 rfl rfl ?_
        refine V.iload_n hc dX12_then_50 rfl rfl ?_
        refine V.callVV hc (qX12_goOn G l _ _ _ _ hw) mo_X12_goOn ml_X12_375 (by rfl) rfl rfl (as := [(0, a2)]) rfl rfl rfl rfl rfl ⟨Nat.zero_le _, Nat.zero_le _⟩ dX12_then_51 (fun h17 hw => ?_)
        refine V.sipush hc dX12_then_54 (by decide) ?_
        refine V.iload_n hc dX12_then_57 rfl rfl ?_
        refine V.imul hc dX12_then_58 ?_
        refine V.istore hc dX12_then_59 rfl (lo' := [(22, o), (0, a1), (0, a2), (0, a3), (0, 257 * a1)]) rfl ?_
        refine V.aload_n (t := 12) hc dX12_then_61 rfl rfl ?_
        refine V.iload_n hc dX12_then_62 rfl rfl ?_
        obtain ⟨g18, hw⟩ := hw
        refine V.if_ne hc (tgt := 79) dX12_then_63 (by decide) g18 (fun c19 => ?_) (fun c19 => ?_)
        · replace hw := hw.1 c19
          refine V.iload_n hc dX12_then_79 rfl rfl ?_
          refine V.iconst hc dX12_then_80 ?_
          obtain ⟨g20, hw⟩ := hw
          refine V.icmp_ne hc (tgt := 97) dX12_then_81 (by decide) g20 (by omega) (fun c21 => ?_) (fun c21 => ?_)
          · replace hw := hw.1 c21
            refine V.iload_n hc dX12_then_97 rfl rfl ?_
            refine V.iconst hc dX12_then_98 ?_
            obtain ⟨g22, hw⟩ := hw
            refine V.icmp_ne hc (tgt := 115) dX12_then_99 (by decide) g22 (by omega) (fun c23 => ?_) (fun c23 => ?_)
            · replace hw := hw.1 c23
              refine V.iload_n hc dX12_then_115 rfl rfl ?_
              refine V.iconst hc dX12_then_116 ?_
              obtain ⟨g24, hw⟩ := hw
              refine V.icmp_ne hc (tgt := 133) dX12_then_117 (by decide) g24 (by omega) (fun c25 => ?_) (fun c25 => ?_)
              · replace hw := hw.1 c25
                refine V.iload_n hc dX12_then_133 rfl rfl ?_
                refine V.iconst hc dX12_then_134 ?_
                obtain ⟨g26, hw⟩ := hw
                refine V.icmp_ne hc (tgt := 151) dX12_then_135 (by decide) g26 (by omega) (fun c27 => ?_) (fun c27 => ?_)
                · replace hw := hw.1 c27
                  refine V.aload_n (t := 12) hc dX12_then_151 rfl rfl ?_
                  refine V.iload_n hc dX12_then_152 rfl rfl ?_
                  refine V.callVI hc (qX12_isActive G l 13 _ _ _ _ hw) mo_X12_isActive ml_X12_262 (by rfl) rfl rfl (as := [(0, a1)]) rfl rfl rfl rfl rfl ⟨Nat.zero_le _, Nat.zero_le _⟩ dX12_then_153 (fun x29 h28 hw => ?_)
                  obtain ⟨q32, hw⟩ := hw
                  have kJ35 : ∀ t31 : Int, ((x29 = 0 → t31 = 0) ∧ (¬ x29 = 0 → t31 = 1)) → V G p l e (rmD 41 0) s m args below meth c (MQ below (QI G P) args s 0 0 (va_Aof G)) 5 164 [(1, 0), (1, 0), (1, 0), (1, 0), (1, 0)] [(0, t31), (22, o)] h28 0 := by
                    intro t31 he
                    replace hw := hw t31 he
                    clear he
                    refine V.callVI hc (qX12_back G l _ _ _ _ hw) mo_X12_back ml_X12_405 (by rfl) rfl rfl (as := [(0, t31)]) rfl rfl rfl rfl rfl ⟨Nat.zero_le _, Nat.zero_le _⟩ dX12_then_164 (fun x34 h33 hw => ?_)
                    exact V.iret hc hr dX12_then_167 hw
                  have g30 := q32
                  refine V.if_eq hc (tgt := 163) dX12_then_156 (by decide) g30 (fun c36 => ?_) (fun c36 => ?_)
                  · refine V.iconst hc dX12_then_163 ?_
                    refine V.drop (lo' := [(1, 0), (1, 0), (1, 0), (1, 0), (1, 0)]) ⟨Or.inl rfl, Or.inl rfl, Or.inl rfl, Or.inl rfl, Or.inl rfl, trivial⟩ ?_
                    exact kJ35 _ ⟨fun _ => rfl, (fun q => absurd c36 q)⟩
                  · refine V.iconst hc dX12_then_159 ?_
                    refine V.goto hc (tgt := 164) dX12_then_160 (by decide) ?_
                    refine V.drop (lo' := [(1, 0), (1, 0), (1, 0), (1, 0), (1, 0)]) ⟨Or.inl rfl, Or.inl rfl, Or.inl rfl, Or.inl rfl, Or.inl rfl, trivial⟩ ?_
                    exact kJ35 _ ⟨(fun q => absurd q c36), fun _ => rfl⟩
                · replace hw := hw.2 c27
                  refine V.aload_n (t := 12) hc dX12_then_138 rfl rfl ?_
                  refine V.gR hc gR_X12_43 (i' := o) rfl dX12_then_139 ?_
                  refine V.iload hc dX12_then_142 rfl ?_
                  refine V.bipush hc dX12_then_144 (by decide) ?_
                  refine V.iadd hc dX12_then_146 ?_
                  obtain ⟨g37, hw⟩ := hw
                  refine V.ald hc ak_56 g37 dX12_then_147 ?_
                  refine V.goto hc (tgt := 164) dX12_then_148 (by decide) ?_
                  refine V.callVI hc (qX12_back G l _ _ _ _ hw) mo_X12_back ml_X12_405 (by rfl) rfl rfl (as := [(0, h17 56 o ((257 * a1) + 16))]) rfl rfl rfl rfl rfl ⟨Nat.zero_le _, Nat.zero_le _⟩ dX12_then_164 (fun x39 h38 hw => ?_)
                  exact V.iret hc hr dX12_then_167 hw
              · replace hw := hw.2 c25
                refine V.aload_n (t := 12) hc dX12_then_120 rfl rfl ?_
                refine V.gR hc gR_X12_43 (i' := o) rfl dX12_then_121 ?_
                refine V.iload hc dX12_then_124 rfl ?_
                refine V.bipush hc dX12_then_126 (by decide) ?_
                refine V.iadd hc dX12_then_128 ?_
                obtain ⟨g40, hw⟩ := hw
                refine V.ald hc ak_56 g40 dX12_then_129 ?_
                refine V.goto hc (tgt := 164) dX12_then_130 (by decide) ?_
                refine V.callVI hc (qX12_back G l _ _ _ _ hw) mo_X12_back ml_X12_405 (by rfl) rfl rfl (as := [(0, h17 56 o ((257 * a1) + 13))]) rfl rfl rfl rfl rfl ⟨Nat.zero_le _, Nat.zero_le _⟩ dX12_then_164 (fun x42 h41 hw => ?_)
                exact V.iret hc hr dX12_then_167 hw
            · replace hw := hw.2 c23
              refine V.aload_n (t := 12) hc dX12_then_102 rfl rfl ?_
              refine V.gR hc gR_X12_43 (i' := o) rfl dX12_then_103 ?_
              refine V.iload hc dX12_then_106 rfl ?_
              refine V.bipush hc dX12_then_108 (by decide) ?_
              refine V.iadd hc dX12_then_110 ?_
              obtain ⟨g43, hw⟩ := hw
              refine V.ald hc ak_56 g43 dX12_then_111 ?_
              refine V.goto hc (tgt := 164) dX12_then_112 (by decide) ?_
              refine V.callVI hc (qX12_back G l _ _ _ _ hw) mo_X12_back ml_X12_405 (by rfl) rfl rfl (as := [(0, h17 56 o ((257 * a1) + 14))]) rfl rfl rfl rfl rfl ⟨Nat.zero_le _, Nat.zero_le _⟩ dX12_then_164 (fun x45 h44 hw => ?_)
              exact V.iret hc hr dX12_then_167 hw
          · replace hw := hw.2 c21
            refine V.aload_n (t := 12) hc dX12_then_84 rfl rfl ?_
            refine V.gR hc gR_X12_43 (i' := o) rfl dX12_then_85 ?_
            refine V.iload hc dX12_then_88 rfl ?_
            refine V.bipush hc dX12_then_90 (by decide) ?_
            refine V.iadd hc dX12_then_92 ?_
            obtain ⟨g46, hw⟩ := hw
            refine V.ald hc ak_56 g46 dX12_then_93 ?_
            refine V.goto hc (tgt := 164) dX12_then_94 (by decide) ?_
            refine V.callVI hc (qX12_back G l _ _ _ _ hw) mo_X12_back ml_X12_405 (by rfl) rfl rfl (as := [(0, h17 56 o ((257 * a1) + 17))]) rfl rfl rfl rfl rfl ⟨Nat.zero_le _, Nat.zero_le _⟩ dX12_then_164 (fun x48 h47 hw => ?_)
            exact V.iret hc hr dX12_then_167 hw
        · replace hw := hw.2 c19
          refine V.aload_n (t := 12) hc dX12_then_66 rfl rfl ?_
          refine V.gR hc gR_X12_43 (i' := o) rfl dX12_then_67 ?_
          refine V.iload hc dX12_then_70 rfl ?_
          refine V.bipush hc dX12_then_72 (by decide) ?_
          refine V.iadd hc dX12_then_74 ?_
          obtain ⟨g49, hw⟩ := hw
          refine V.ald hc ak_56 g49 dX12_then_75 ?_
          refine V.goto hc (tgt := 164) dX12_then_76 (by decide) ?_
          refine V.callVI hc (qX12_back G l _ _ _ _ hw) mo_X12_back ml_X12_405 (by rfl) rfl rfl (as := [(0, h17 56 o ((257 * a1) + 12))]) rfl rfl rfl rfl rfl ⟨Nat.zero_le _, Nat.zero_le _⟩ dX12_then_164 (fun x51 h50 hw => ?_)
          exact V.iret hc hr dX12_then_167 hw
      · replace hw := hw.2 c15
        refine V.aload_n (t := 12) hc dX12_then_39 rfl rfl ?_
        refine V.iconst hc dX12_then_40 ?_
        refine V.callVI hc (qX12_fail G l _ _ _ _ hw) mo_X12_fail ml_X12_219 (by rfl) rfl rfl (as := [(0, 2)]) rfl rfl rfl rfl rfl ⟨Nat.zero_le _, Nat.zero_le _⟩ dX12_then_41 (fun x53 h52 hw => ?_)
        exact V.iret hc hr dX12_then_44 hw
    · replace hw := hw.2 c11
      refine V.aload_n (t := 12) hc dX12_then_22 rfl rfl ?_
      refine V.iconst hc dX12_then_23 ?_
      refine V.callVI hc (qX12_fail G l _ _ _ _ hw) mo_X12_fail ml_X12_219 (by rfl) rfl rfl (as := [(0, 1)]) rfl rfl rfl rfl rfl ⟨Nat.zero_le _, Nat.zero_le _⟩ dX12_then_24 (fun x55 h54 hw => ?_)
      exact V.iret hc hr dX12_then_27 hw
theorem tX12_next_45 {G : GG} {p : Program} {l : Launch} {e : Jvm.Env} {s : State} {m : MethodId} {args : Array Value} {below : List Frame} {meth : Method} {c : Code} {P : Int → HP → Prop} (hc : VC G p (rmD 40 0) s m args meth c RX12 cX12_next 5 40) (hr : meth.sig.returnType = some .int) {o : Int} {a1 : Int} {a2 : Int} {K129 : HP → Prop} {K77 : HP → Prop} (hK129 : ∀  (h : HP), K129  h → V G p l e (rmD 40 0) s m args below meth c (MQ below (QI G P) args s 0 0 (va_Aof G)) 5 129 [(22, o), (1, 0), (1, 0), (1, 0), (1, 0)] [] h 0) (hK77 : ∀  (h : HP), K77  h → V G p l e (rmD 40 0) s m args below meth c (MQ below (QI G P) args s 0 0 (va_Aof G)) 5 77 [(22, o), (1, 0), (0, a2), (1, 0), (1, 0)] [] h 0) : ∀ (f : Nat) (l3 : Int) (l4 : Int) (h : HP), wX12_next_45 o a1 a2 K129 K77 f l3 l4 h → V G p l e (rmD 40 0) s m args below meth c (MQ below (QI G P) args s 0 0 (va_Aof G)) 5 45 [(22, o), (1, 0), (0, a2), (0, l3), (0, l4)] [] h 0 := by
  intro f
  induction f with
  | zero =>
    intro l3 l4 h hw
    exact hw.elim
  | succ f ih =>
    intro l3 l4 h hw
    refine V.iload hc dX12_next_45 rfl ?_
    refine V.sipush hc dX12_next_47 (by decide) ?_
    obtain ⟨g11, hw⟩ := hw
    refine V.icmp_ge hc (tgt := 129) dX12_next_50 (by decide) g11 (by omega) (fun c12 => ?_) (fun c12 => ?_)
    · replace hw := hw.1 c12
      refine V.drop (lo' := [(22, o), (1, 0), (1, 0), (1, 0), (1, 0)]) ⟨Or.inr rfl, Or.inr rfl, Or.inl rfl, Or.inl rfl, Or.inl rfl, trivial⟩ ?_
      exact hK129 _ hw
    · replace hw := hw.2 c12
      refine V.aload_n (t := 12) hc dX12_next_53 rfl rfl ?_
      refine V.callVV hc (qX12_unit G l _ _ _ hw) mo_X12_unit ml_X12_341 (by rfl) rfl rfl (as := []) rfl rfl rfl rfl rfl ⟨Nat.zero_le _, Nat.zero_le _⟩ dX12_next_54 (fun h13 hw => ?_)
      refine V.iload_n hc dX12_next_57 rfl rfl ?_
      refine V.aload_n (t := 12) hc dX12_next_58 rfl rfl ?_
      refine V.gI hc gI_X12_317 rfl dX12_next_59 ?_
      refine V.iconst hc dX12_next_62 ?_
      obtain ⟨q16, hw⟩ := hw
      have kJ19 : ∀ t15 : Int, ((¬ h13 12 o 26 = (-1) → t15 = 1) ∧ (h13 12 o 26 = (-1) → t15 = 0)) → V G p l e (rmD 40 0) s m args below meth c (MQ below (QI G P) args s 0 0 (va_Aof G)) 5 71 [(22, o), (1, 0), (0, a2), (1, 0), (0, l4)] [(0, t15), (0, l3)] h13 0 := by
        intro t15 he
        replace hw := hw t15 he
        clear he
        refine V.isub hc dX12_next_71 ?_
        refine V.istore_n hc dX12_next_72 rfl rfl (lo' := [(22, o), (1, 0), (0, a2), (0, l3 - t15), (0, l4)]) rfl ?_
        refine V.iload_n hc dX12_next_73 rfl rfl ?_
        obtain ⟨g17, hw⟩ := hw
        refine V.if_ne hc (tgt := 123) dX12_next_74 (by decide) g17 (fun c18 => ?_) (fun c18 => ?_)
        · replace hw := hw.1 c18
          refine V.iinc hc dX12_next_123 rfl rfl (lo' := [(22, o), (1, 0), (0, a2), (0, l3 - t15), (0, l4 + 1)]) rfl ?_
          refine V.goto hc (tgt := 45) dX12_next_126 (by decide) ?_
          exact ih _ _ _ hw
        · replace hw := hw.2 c18
          refine V.drop (lo' := [(22, o), (1, 0), (0, a2), (1, 0), (1, 0)]) ⟨Or.inr rfl, Or.inr rfl, Or.inr rfl, Or.inl rfl, Or.inl rfl, trivial⟩ ?_
          exact hK77 _ hw
      have g14 := q16
      refine V.icmp_ne hc (tgt := 70) dX12_next_63 (by decide) g14 (by omega) (fun c20 => ?_) (fun c20 => ?_)
      · refine V.iconst hc dX12_next_70 ?_
        refine V.drop (lo' := [(22, o), (1, 0), (0, a2), (1, 0), (0, l4)]) ⟨Or.inr rfl, Or.inr rfl, Or.inr rfl, Or.inl rfl, Or.inr rfl, trivial⟩ ?_
        exact kJ19 _ ⟨fun _ => rfl, (fun q => absurd q c20)⟩
      · refine V.iconst hc dX12_next_66 ?_
        refine V.goto hc (tgt := 71) dX12_next_67 (by decide) ?_
        refine V.drop (lo' := [(22, o), (1, 0), (0, a2), (1, 0), (0, l4)]) ⟨Or.inr rfl, Or.inr rfl, Or.inr rfl, Or.inl rfl, Or.inr rfl, trivial⟩ ?_
        exact kJ19 _ ⟨(fun q => absurd c20 q), fun _ => rfl⟩
theorem qX12_next (G : GG) (l : Launch) (o : Int) (a1 : Int) (a2 : Int) (h : HP) (P : Int → HP → Prop) (hw : wX12_next o a1 a2 h P) : CnI l G yX12_next cX12_next 5 (some .int) 40 [(22, o), (0, a1), (0, a2)] h P := by
  refine CnI.of (lo := [(22, o), (0, a1), (0, a2), (1, 0), (1, 0)]) (by decide) rfl rfl rfl ?_
  intro p e s m args below meth c hc hr
  have hc : VC G p (rmD 40 0) s m args meth c RX12 cX12_next 5 40 := hc
  refine V.aload_n (t := 12) hc dX12_next_0 rfl rfl ?_
  refine V.iconst hc dX12_next_1 ?_
  refine V.pI hc pI_X12_118 rfl dX12_next_2 (fun h1 e => ?_)
  replace hw := hw h1 e
  clear e
  refine V.iload_n hc dX12_next_5 rfl rfl ?_
  refine V.iconst hc dX12_next_6 ?_
  refine V.iconst hc dX12_next_7 ?_
  refine V.callSI hc (qX12_isIn G l _ _ _ _ _ hw) mo_X12_isIn ml_X12_356 (as := [(0, a2), (0, 0), (0, 2)]) rfl rfl rfl rfl rfl ⟨Nat.zero_le _, Nat.zero_le _⟩ dX12_next_8 (fun x3 h2 hw => ?_)
  obtain ⟨g4, hw⟩ := hw
  refine V.if_ne hc (tgt := 20) dX12_next_11 (by decide) g4 (fun c5 => ?_) (fun c5 => ?_)
  · replace hw := hw.1 c5
    refine V.iload_n hc dX12_next_20 rfl rfl ?_
    refine V.iconst hc dX12_next_21 ?_
    refine V.bipush hc dX12_next_22 (by decide) ?_
    refine V.callSI hc (qX12_isIn G l _ _ _ _ _ hw) mo_X12_isIn ml_X12_356 (as := [(0, a1), (0, 1), (0, 20)]) rfl rfl rfl rfl rfl ⟨Nat.zero_le _, Nat.zero_le _⟩ dX12_next_24 (fun x7 h6 hw => ?_)
    obtain ⟨g8, hw⟩ := hw
    refine V.if_ne hc (tgt := 36) dX12_next_27 (by decide) g8 (fun c9 => ?_) (fun c9 => ?_)
    · replace hw := hw.1 c9
      refine V.iload_n hc dX12_next_36 rfl rfl ?_
      refine V.istore_n hc dX12_next_37 rfl rfl (lo' := [(22, o), (0, a1), (0, a2), (0, a1), (1, 0)]) rfl ?_
      refine V.aload_n (t := 12) hc dX12_next_38 rfl rfl ?_
      refine V.callVV hc (qX12_rememberNow G l _ _ _ hw) mo_X12_rememberNow ml_X12_402 (by rfl) rfl rfl (as := []) rfl rfl rfl rfl rfl ⟨Nat.zero_le _, Nat.zero_le _⟩ dX12_next_39 (fun h10 hw => ?_)
      refine V.iconst hc dX12_next_42 ?_
      refine V.istore hc dX12_next_43 rfl (lo' := [(22, o), (0, a1), (0, a2), (0, a1), (0, 0)]) rfl ?_
      obtain ⟨f21, hw⟩ := hw
      refine V.drop (lo' := [(22, o), (1, 0), (0, a2), (0, a1), (0, 0)]) ⟨Or.inr rfl, Or.inl rfl, Or.inr rfl, Or.inr rfl, Or.inr rfl, trivial⟩ ?_
      refine tX12_next_45 hc hr ?_ ?_ f21 _ _ _ hw
      · intro h22 hw
        refine V.aload_n (t := 12) hc dX12_next_129 rfl rfl ?_
        refine V.iconst hc dX12_next_130 ?_
        refine V.callVI hc (qX12_back G l _ _ _ _ hw) mo_X12_back ml_X12_405 (by rfl) rfl rfl (as := [(0, (-1))]) rfl rfl rfl rfl rfl ⟨Nat.zero_le _, Nat.zero_le _⟩ dX12_next_131 (fun x24 h23 hw => ?_)
        exact V.iret hc hr dX12_next_134 hw
      · intro h25 hw
        refine V.aload_n (t := 12) hc dX12_next_77 rfl rfl ?_
        refine V.iload_n hc dX12_next_78 rfl rfl ?_
        obtain ⟨q30, hw⟩ := hw
        have kJ33 : ∀ t29 : Int, ((¬ a2 = 0 → ((¬ a2 = 1 → ((h25 12 o 28 = 0 → t29 = 0) ∧ (¬ h25 12 o 28 = 0 → t29 = 1))) ∧ (a2 = 1 → t29 = (h25 56 o 3084) - 1))) ∧ (a2 = 0 → t29 = h25 12 o 26)) → V G p l e (rmD 40 0) s m args below meth c (MQ below (QI G P) args s 0 0 (va_Aof G)) 5 119 [(1, 0), (1, 0), (1, 0), (1, 0), (1, 0)] [(0, t29), (22, o)] h25 0 := by
          intro t29 he
          replace hw := hw t29 he
          clear he
          refine V.callVI hc (qX12_back G l _ _ _ _ hw) mo_X12_back ml_X12_405 (by rfl) rfl rfl (as := [(0, t29)]) rfl rfl rfl rfl rfl ⟨Nat.zero_le _, Nat.zero_le _⟩ dX12_next_119 (fun x32 h31 hw => ?_)
          exact V.iret hc hr dX12_next_122 hw
        obtain ⟨g26, q34⟩ := q30
        refine V.if_ne hc (tgt := 89) dX12_next_79 (by decide) g26 (fun c35 => ?_) (fun c35 => ?_)
        · have q36 := q34 c35
          obtain ⟨g27, q37⟩ := q36
          refine V.iload_n hc dX12_next_89 rfl rfl ?_
          refine V.iconst hc dX12_next_90 ?_
          refine V.icmp_ne hc (tgt := 107) dX12_next_91 (by decide) g27 (by omega) (fun c38 => ?_) (fun c38 => ?_)
          · have q39 := q37 c38
            have g28 := q39
            refine V.aload_n (t := 12) hc dX12_next_107 rfl rfl ?_
            refine V.gI hc gI_X12_311 rfl dX12_next_108 ?_
            refine V.if_eq hc (tgt := 118) dX12_next_111 (by decide) g28 (fun c40 => ?_) (fun c40 => ?_)
            · refine V.iconst hc dX12_next_118 ?_
              refine V.drop (lo' := [(1, 0), (1, 0), (1, 0), (1, 0), (1, 0)]) ⟨Or.inl rfl, Or.inr rfl, Or.inl rfl, Or.inr rfl, Or.inr rfl, trivial⟩ ?_
              exact kJ33 _ ⟨fun _ => ⟨fun _ => ⟨fun _ => rfl, (fun q => absurd c40 q)⟩, (fun q => absurd q c38)⟩, (fun q => absurd q c35)⟩
            · refine V.iconst hc dX12_next_114 ?_
              refine V.goto hc (tgt := 119) dX12_next_115 (by decide) ?_
              refine V.drop (lo' := [(1, 0), (1, 0), (1, 0), (1, 0), (1, 0)]) ⟨Or.inl rfl, Or.inr rfl, Or.inl rfl, Or.inr rfl, Or.inr rfl, trivial⟩ ?_
              exact kJ33 _ ⟨fun _ => ⟨fun _ => ⟨(fun q => absurd q c40), fun _ => rfl⟩, (fun q => absurd q c38)⟩, (fun q => absurd q c35)⟩
          · refine V.aload_n (t := 12) hc dX12_next_94 rfl rfl ?_
            refine V.gR hc gR_X12_43 (i' := o) rfl dX12_next_95 ?_
            refine V.sipush hc dX12_next_98 (by decide) ?_
            refine V.ald hc ak_56 (by omega) dX12_next_101 ?_
            refine V.iconst hc dX12_next_102 ?_
            refine V.isub hc dX12_next_103 ?_
            refine V.goto hc (tgt := 119) dX12_next_104 (by decide) ?_
            refine V.drop (lo' := [(1, 0), (1, 0), (1, 0), (1, 0), (1, 0)]) ⟨Or.inl rfl, Or.inr rfl, Or.inl rfl, Or.inr rfl, Or.inr rfl, trivial⟩ ?_
            exact kJ33 _ ⟨fun _ => ⟨(fun q => absurd c38 q), fun _ => rfl⟩, (fun q => absurd q c35)⟩
        · refine V.aload_n (t := 12) hc dX12_next_82 rfl rfl ?_
          refine V.gI hc gI_X12_317 rfl dX12_next_83 ?_
          refine V.goto hc (tgt := 119) dX12_next_86 (by decide) ?_
          refine V.drop (lo' := [(1, 0), (1, 0), (1, 0), (1, 0), (1, 0)]) ⟨Or.inl rfl, Or.inr rfl, Or.inl rfl, Or.inr rfl, Or.inr rfl, trivial⟩ ?_
          exact kJ33 _ ⟨(fun q => absurd c35 q), fun _ => rfl⟩
    · replace hw := hw.2 c9
      refine V.aload_n (t := 12) hc dX12_next_30 rfl rfl ?_
      refine V.iconst hc dX12_next_31 ?_
      refine V.callVI hc (qX12_fail G l _ _ _ _ hw) mo_X12_fail ml_X12_219 (by rfl) rfl rfl (as := [(0, 2)]) rfl rfl rfl rfl rfl ⟨Nat.zero_le _, Nat.zero_le _⟩ dX12_next_32 (fun x42 h41 hw => ?_)
      exact V.iret hc hr dX12_next_35 hw
  · replace hw := hw.2 c5
    refine V.aload_n (t := 12) hc dX12_next_14 rfl rfl ?_
    refine V.iconst hc dX12_next_15 ?_
    refine V.callVI hc (qX12_fail G l _ _ _ _ hw) mo_X12_fail ml_X12_219 (by rfl) rfl rfl (as := [(0, 1)]) rfl rfl rfl rfl rfl ⟨Nat.zero_le _, Nat.zero_le _⟩ dX12_next_16 (fun x44 h43 hw => ?_)
    exact V.iret hc hr dX12_next_19 hw
theorem tX12_unitsTill_5 {G : GG} {p : Program} {l : Launch} {e : Jvm.Env} {s : State} {m : MethodId} {args : Array Value} {below : List Frame} {meth : Method} {c : Code} {P : Int → HP → Prop} (hc : VC G p (rmD 40 0) s m args meth c RX12 cX12_unitsTill 5 40) (hr : meth.sig.returnType = some .int) {o : Int} {a1 : Int} {a2 : Int} {K46 : HP → Prop} {K37 : Int → HP → Prop} (hK46 : ∀  (h : HP), K46  h → V G p l e (rmD 40 0) s m args below meth c (MQ below (QI G P) args s 0 0 (va_Aof G)) 5 46 [(1, 0), (1, 0), (1, 0), (1, 0), (1, 0)] [] h 0) (hK37 : ∀ (x4 : Int) (h : HP), K37 x4 h → V G p l e (rmD 40 0) s m args below meth c (MQ below (QI G P) args s 0 0 (va_Aof G)) 5 37 [(1, 0), (1, 0), (1, 0), (1, 0), (0, x4)] [] h 0) : ∀ (f : Nat) (l3 : Int) (l4 : Int) (h : HP), wX12_unitsTill_5 o a1 a2 K46 K37 f l3 l4 h → V G p l e (rmD 40 0) s m args below meth c (MQ below (QI G P) args s 0 0 (va_Aof G)) 5 5 [(22, o), (0, a1), (1, 0), (0, l3), (0, l4)] [] h 0 := by
  intro f
  induction f with
  | zero =>
    intro l3 l4 h hw
    exact hw.elim
  | succ f ih =>
    intro l3 l4 h hw
    refine V.iload hc dX12_unitsTill_5 rfl ?_
    refine V.sipush hc dX12_unitsTill_7 (by decide) ?_
    obtain ⟨g1, hw⟩ := hw
    refine V.icmp_ge hc (tgt := 46) dX12_unitsTill_10 (by decide) g1 (by omega) (fun c2 => ?_) (fun c2 => ?_)
    · replace hw := hw.1 c2
      refine V.drop (lo' := [(1, 0), (1, 0), (1, 0), (1, 0), (1, 0)]) ⟨Or.inl rfl, Or.inl rfl, Or.inr rfl, Or.inl rfl, Or.inl rfl, trivial⟩ ?_
      exact hK46 _ hw
    · replace hw := hw.2 c2
      refine V.aload_n (t := 12) hc dX12_unitsTill_13 rfl rfl ?_
      refine V.callVV hc (qX12_unit G l _ _ _ hw) mo_X12_unit ml_X12_341 (by rfl) rfl rfl (as := []) rfl rfl rfl rfl rfl ⟨Nat.zero_le _, Nat.zero_le _⟩ dX12_unitsTill_14 (fun h3 hw => ?_)
      refine V.iload_n hc dX12_unitsTill_17 rfl rfl ?_
      refine V.aload_n (t := 12) hc dX12_unitsTill_18 rfl rfl ?_
      refine V.gI hc gI_X12_317 rfl dX12_unitsTill_19 ?_
      refine V.iload_n hc dX12_unitsTill_22 rfl rfl ?_
      obtain ⟨q7, hw⟩ := hw
      have kJ10 : ∀ t6 : Int, ((¬ h3 12 o 26 = a1 → t6 = 0) ∧ (h3 12 o 26 = a1 → t6 = 1)) → V G p l e (rmD 40 0) s m args below meth c (MQ below (QI G P) args s 0 0 (va_Aof G)) 5 31 [(22, o), (0, a1), (1, 0), (1, 0), (0, l4)] [(0, t6), (0, l3)] h3 0 := by
        intro t6 he
        replace hw := hw t6 he
        clear he
        refine V.isub hc dX12_unitsTill_31 ?_
        refine V.istore_n hc dX12_unitsTill_32 rfl rfl (lo' := [(22, o), (0, a1), (1, 0), (0, l3 - t6), (0, l4)]) rfl ?_
        refine V.iload_n hc dX12_unitsTill_33 rfl rfl ?_
        obtain ⟨g8, hw⟩ := hw
        refine V.if_ne hc (tgt := 40) dX12_unitsTill_34 (by decide) g8 (fun c9 => ?_) (fun c9 => ?_)
        · replace hw := hw.1 c9
          refine V.iinc hc dX12_unitsTill_40 rfl rfl (lo' := [(22, o), (0, a1), (1, 0), (0, l3 - t6), (0, l4 + 1)]) rfl ?_
          refine V.goto hc (tgt := 5) dX12_unitsTill_43 (by decide) ?_
          exact ih _ _ _ hw
        · replace hw := hw.2 c9
          refine V.drop (lo' := [(1, 0), (1, 0), (1, 0), (1, 0), (0, l4)]) ⟨Or.inl rfl, Or.inl rfl, Or.inr rfl, Or.inl rfl, Or.inr rfl, trivial⟩ ?_
          exact hK37 _ _ hw
      obtain ⟨g4, g5⟩ := q7
      refine V.icmp_ne hc (tgt := 30) dX12_unitsTill_23 (by decide) g4 g5 (fun c11 => ?_) (fun c11 => ?_)
      · refine V.iconst hc dX12_unitsTill_30 ?_
        refine V.drop (lo' := [(22, o), (0, a1), (1, 0), (1, 0), (0, l4)]) ⟨Or.inr rfl, Or.inr rfl, Or.inr rfl, Or.inl rfl, Or.inr rfl, trivial⟩ ?_
        exact kJ10 _ ⟨fun _ => rfl, (fun q => absurd q c11)⟩
      · refine V.iconst hc dX12_unitsTill_26 ?_
        refine V.goto hc (tgt := 31) dX12_unitsTill_27 (by decide) ?_
        refine V.drop (lo' := [(22, o), (0, a1), (1, 0), (1, 0), (0, l4)]) ⟨Or.inr rfl, Or.inr rfl, Or.inr rfl, Or.inl rfl, Or.inr rfl, trivial⟩ ?_
        exact kJ10 _ ⟨(fun q => absurd c11 q), fun _ => rfl⟩
theorem qX12_unitsTill (G : GG) (l : Launch) (o : Int) (a1 : Int) (a2 : Int) (h : HP) (P : Int → HP → Prop) (hw : wX12_unitsTill o a1 a2 h P) : CnI l G yX12_unitsTill cX12_unitsTill 5 (some .int) 40 [(22, o), (0, a1), (0, a2)] h P := by
  refine CnI.of (lo := [(22, o), (0, a1), (0, a2), (1, 0), (1, 0)]) (by decide) rfl rfl rfl ?_
  intro p e s m args below meth c hc hr
  have hc : VC G p (rmD 40 0) s m args meth c RX12 cX12_unitsTill 5 40 := hc
  refine V.iload_n hc dX12_unitsTill_0 rfl rfl ?_
  refine V.istore_n hc dX12_unitsTill_1 rfl rfl (lo' := [(22, o), (0, a1), (0, a2), (0, a2), (1, 0)]) rfl ?_
  refine V.iconst hc dX12_unitsTill_2 ?_
  refine V.istore hc dX12_unitsTill_3 rfl (lo' := [(22, o), (0, a1), (0, a2), (0, a2), (0, 0)]) rfl ?_
  obtain ⟨f12, hw⟩ := hw
  refine V.drop (lo' := [(22, o), (0, a1), (1, 0), (0, a2), (0, 0)]) ⟨Or.inr rfl, Or.inr rfl, Or.inl rfl, Or.inr rfl, Or.inr rfl, trivial⟩ ?_
  refine tX12_unitsTill_5 hc hr ?_ ?_ f12 _ _ _ hw
  · intro h13 hw
    refine V.iconst hc dX12_unitsTill_46 ?_
    exact V.iret hc hr dX12_unitsTill_47 hw
  · intro l14 h15 hw
    refine V.iload hc dX12_unitsTill_37 rfl ?_
    exact V.iret hc hr dX12_unitsTill_39 hw
theorem qX12_hasPackets (G : GG) (l : Launch) (o : Int) (a1 : Int) (h : HP) (P : Int → HP → Prop) (hw : wX12_hasPackets o a1 h P) : CnI l G yX12_hasPackets cX12_hasPackets 2 (some .boolean) 11 [(22, o), (0, a1)] h P := by
  refine CnI.of (lo := [(22, o), (0, a1)]) (by decide) rfl rfl rfl ?_
  intro p e s m args below meth c hc hr
  have hc : VC G p (rmD 11 0) s m args meth c RX12 cX12_hasPackets 2 11 := hc
  refine V.aload_n (t := 12) hc dX12_hasPackets_0 rfl rfl ?_
  refine V.iload_n hc dX12_hasPackets_1 rfl rfl ?_
  refine V.callVI hc (qX12_isLeafThere G l _ _ _ _ hw) mo_X12_isLeafThere ml_X12_366 (by rfl) rfl rfl (as := [(0, a1)]) rfl rfl rfl rfl rfl ⟨Nat.zero_le _, Nat.zero_le _⟩ dX12_hasPackets_2 (fun x2 h1 hw => ?_)
  obtain ⟨q7, hw⟩ := hw
  have kJ9 : ∀ t6 : Int, ((x2 = 0 → t6 = 0) ∧ (¬ x2 = 0 → ((h1 56 o ((257 * a1) + 17) ≤ 0 → t6 = 0) ∧ (¬ h1 56 o ((257 * a1) + 17) ≤ 0 → t6 = 1)))) → V G p l e (rmD 11 0) s m args below meth c (MQ below (QI G P) args s 0 0 (va_Aof G)) 2 29 [(1, 0), (1, 0)] [(0, t6)] h1 0 := by
    intro t6 he
    replace hw := hw t6 he
    clear he
    obtain ⟨g8, hw⟩ := hw
    exact V.zret hc hr dX12_hasPackets_29 g8 hw
  obtain ⟨g3, q10⟩ := q7
  refine V.if_eq hc (tgt := 28) dX12_hasPackets_5 (by decide) g3 (fun c11 => ?_) (fun c11 => ?_)
  · refine V.iconst hc dX12_hasPackets_28 ?_
    refine V.drop (lo' := [(1, 0), (1, 0)]) ⟨Or.inl rfl, Or.inl rfl, trivial⟩ ?_
    exact kJ9 _ ⟨fun _ => rfl, (fun q => absurd c11 q)⟩
  · have q12 := q10 c11
    obtain ⟨g4, g5⟩ := q12
    refine V.aload_n (t := 12) hc dX12_hasPackets_8 rfl rfl ?_
    refine V.gR hc gR_X12_43 (i' := o) rfl dX12_hasPackets_9 ?_
    refine V.sipush hc dX12_hasPackets_12 (by decide) ?_
    refine V.iload_n hc dX12_hasPackets_15 rfl rfl ?_
    refine V.imul hc dX12_hasPackets_16 ?_
    refine V.bipush hc dX12_hasPackets_17 (by decide) ?_
    refine V.iadd hc dX12_hasPackets_19 ?_
    refine V.ald hc ak_56 g4 dX12_hasPackets_20 ?_
    refine V.if_le hc (tgt := 28) dX12_hasPackets_21 (by decide) g5 (fun c13 => ?_) (fun c13 => ?_)
    · refine V.iconst hc dX12_hasPackets_28 ?_
      refine V.drop (lo' := [(1, 0), (1, 0)]) ⟨Or.inl rfl, Or.inl rfl, trivial⟩ ?_
      exact kJ9 _ ⟨(fun q => absurd q c11), fun _ => ⟨fun _ => rfl, (fun q => absurd c13 q)⟩⟩
    · refine V.iconst hc dX12_hasPackets_24 ?_
      refine V.goto hc (tgt := 29) dX12_hasPackets_25 (by decide) ?_
      refine V.drop (lo' := [(1, 0), (1, 0)]) ⟨Or.inl rfl, Or.inl rfl, trivial⟩ ?_
      exact kJ9 _ ⟨(fun q => absurd q c11), fun _ => ⟨(fun q => absurd q c13), fun _ => rfl⟩⟩
theorem qX12_waits (G : GG) (l : Launch) (o : Int) (a1 : Int) (h : HP) (P : Int → HP → Prop) (hw : wX12_waits o a1 h P) : CnI l G yX12_waits cX12_waits 2 (some .int) 41 [(22, o), (0, a1)] h P := by
  refine CnI.of (lo := [(22, o), (0, a1)]) (by decide) rfl rfl rfl ?_
  intro p e s m args below meth c hc hr
  have hc : VC G p (rmD 41 0) s m args meth c RX12 cX12_waits 2 41 := hc
  refine V.aload_n (t := 12) hc dX12_waits_0 rfl rfl ?_
  refine V.iconst hc dX12_waits_1 ?_
  refine V.pI hc pI_X12_118 rfl dX12_waits_2 (fun h1 e => ?_)
  replace hw := hw h1 e
  clear e
  refine V.aload_n (t := 12) hc dX12_waits_5 rfl rfl ?_
  refine V.iload_n hc dX12_waits_6 rfl rfl ?_
  refine V.callVI hc (qX12_hasPackets G l _ _ _ _ hw) mo_X12_hasPackets ml_X12_408 (by rfl) rfl rfl (as := [(0, a1)]) rfl rfl rfl rfl rfl ⟨Nat.zero_le _, Nat.zero_le _⟩ dX12_waits_7 (fun x3 h2 hw => ?_)
  obtain ⟨g4, hw⟩ := hw
  refine V.if_ne hc (tgt := 19) dX12_waits_10 (by decide) g4 (fun c5 => ?_) (fun c5 => ?_)
  · replace hw := hw.1 c5
    refine V.aload_n (t := 12) hc dX12_waits_19 rfl rfl ?_
    refine V.callVV hc (qX12_rememberNow G l _ _ _ hw) mo_X12_rememberNow ml_X12_402 (by rfl) rfl rfl (as := []) rfl rfl rfl rfl rfl ⟨Nat.zero_le _, Nat.zero_le _⟩ dX12_waits_20 (fun h6 hw => ?_)
    refine V.aload_n (t := 12) hc dX12_waits_23 rfl rfl ?_
    refine V.aload_n (t := 12) hc dX12_waits_24 rfl rfl ?_
    refine V.iload_n hc dX12_waits_25 rfl rfl ?_
    refine V.aload_n (t := 12) hc dX12_waits_26 rfl rfl ?_
    refine V.gR hc gR_X12_43 (i' := o) rfl dX12_waits_27 ?_
    refine V.sipush hc dX12_waits_30 (by decide) ?_
    refine V.iload_n hc dX12_waits_33 rfl rfl ?_
    refine V.imul hc dX12_waits_34 ?_
    refine V.bipush hc dX12_waits_35 (by decide) ?_
    refine V.iadd hc dX12_waits_37 ?_
    obtain ⟨g7, hw⟩ := hw
    refine V.ald hc ak_56 g7 dX12_waits_38 ?_
    refine V.callVI hc (qX12_unitsTill G l _ _ _ _ _ hw) mo_X12_unitsTill ml_X12_411 (by rfl) rfl rfl (as := [(0, a1), (0, h6 56 o ((257 * a1) + 17))]) rfl rfl rfl rfl rfl ⟨Nat.zero_le _, Nat.zero_le _⟩ dX12_waits_39 (fun x9 h8 hw => ?_)
    refine V.callVI hc (qX12_back G l _ _ _ _ hw) mo_X12_back ml_X12_405 (by rfl) rfl rfl (as := [(0, x9)]) rfl rfl rfl rfl rfl ⟨Nat.zero_le _, Nat.zero_le _⟩ dX12_waits_42 (fun x11 h10 hw => ?_)
    exact V.iret hc hr dX12_waits_45 hw
  · replace hw := hw.2 c5
    refine V.aload_n (t := 12) hc dX12_waits_13 rfl rfl ?_
    refine V.iconst hc dX12_waits_14 ?_
    refine V.callVI hc (qX12_fail G l _ _ _ _ hw) mo_X12_fail ml_X12_219 (by rfl) rfl rfl (as := [(0, 1)]) rfl rfl rfl rfl rfl ⟨Nat.zero_le _, Nat.zero_le _⟩ dX12_waits_15 (fun x13 h12 hw => ?_)
    exact V.iret hc hr dX12_waits_18 hw
theorem tX12_longest_73 {G : GG} {p : Program} {l : Launch} {e : Jvm.Env} {s : State} {m : MethodId} {args : Array Value} {below : List Frame} {meth : Method} {c : Code} {P : Int → HP → Prop} (hc : VC G p (rmD 40 0) s m args meth c RX12 cX12_longest 7 40) (hr : meth.sig.returnType = some .int) {o : Int} {a1 : Int} {a2 : Int} {K144 : Int → HP → Prop} (hK144 : ∀ (x5 : Int) (h : HP), K144 x5 h → V G p l e (rmD 40 0) s m args below meth c (MQ below (QI G P) args s 0 0 (va_Aof G)) 7 144 [(22, o), (1, 0), (1, 0), (1, 0), (1, 0), (0, x5), (1, 0)] [] h 0) : ∀ (f : Nat) (l3 : Int) (l4 : Int) (l5 : Int) (l6 : Int) (h : HP), wX12_longest_73 o a1 a2 K144 f l3 l4 l5 l6 h → V G p l e (rmD 40 0) s m args below meth c (MQ below (QI G P) args s 0 0 (va_Aof G)) 7 73 [(22, o), (0, a1), (0, a2), (0, l3), (0, l4), (0, l5), (0, l6)] [] h 0 := by
  intro f
  induction f with
  | zero =>
    intro l3 l4 l5 l6 h hw
    exact hw.elim
  | succ f ih =>
    intro l3 l4 l5 l6 h hw
    refine V.iload hc dX12_longest_73 rfl ?_
    refine V.iload_n hc dX12_longest_75 rfl rfl ?_
    obtain ⟨g14, hw⟩ := hw
    obtain ⟨g15, hw⟩ := hw
    refine V.icmp_ge hc (tgt := 144) dX12_longest_76 (by decide) g14 g15 (fun c16 => ?_) (fun c16 => ?_)
    · replace hw := hw.1 c16
      refine V.drop (lo' := [(22, o), (1, 0), (1, 0), (1, 0), (1, 0), (0, l5), (1, 0)]) ⟨Or.inr rfl, Or.inl rfl, Or.inl rfl, Or.inl rfl, Or.inl rfl, Or.inr rfl, Or.inl rfl, trivial⟩ ?_
      exact hK144 _ _ hw
    · replace hw := hw.2 c16
      refine V.aload_n (t := 12) hc dX12_longest_79 rfl rfl ?_
      refine V.callVV hc (qX12_unit G l _ _ _ hw) mo_X12_unit ml_X12_341 (by rfl) rfl rfl (as := []) rfl rfl rfl rfl rfl ⟨Nat.zero_le _, Nat.zero_le _⟩ dX12_longest_80 (fun h17 hw => ?_)
      refine V.aload_n (t := 12) hc dX12_longest_83 rfl rfl ?_
      refine V.gI hc gI_X12_317 rfl dX12_longest_84 ?_
      refine V.iload_n hc dX12_longest_87 rfl rfl ?_
      obtain ⟨q28, hw⟩ := hw
      have kJ29 : ∀ t25 t26 t27 : Int, ((h17 12 o 26 = a1 → ((l3 ≤ 0 → (t25 = l3 ∧ t26 = l4 + 1 ∧ t27 = max l5 (((h17 56 o 3084) - 1) - (h17 61 o (l4 % 420))))) ∧ (¬ l3 ≤ 0 → (t25 = l3 + (-1) ∧ t26 = l4 ∧ t27 = l5)))) ∧ (¬ h17 12 o 26 = a1 → (t25 = l3 ∧ t26 = l4 ∧ t27 = l5))) → V G p l e (rmD 40 0) s m args below meth c (MQ below (QI G P) args s 0 0 (va_Aof G)) 7 138 [(22, o), (0, a1), (0, a2), (0, t25), (0, t26), (0, t27), (0, l6)] [] h17 0 := by
        intro t25 t26 t27 he
        replace hw := hw t25 t26 t27 he
        clear he
        refine V.iinc hc dX12_longest_138 rfl rfl (lo' := [(22, o), (0, a1), (0, a2), (0, t25), (0, t26), (0, t27), (0, l6 + 1)]) rfl ?_
        refine V.goto hc (tgt := 73) dX12_longest_141 (by decide) ?_
        exact ih _ _ _ _ _ hw
      obtain ⟨g18, g19, q30⟩ := q28
      refine V.icmp_eq hc (tgt := 94) dX12_longest_88 (by decide) g18 g19 (fun c31 => ?_) (fun c31 => ?_)
      · have q32 := q30 c31
        obtain ⟨g20, q33⟩ := q32
        refine V.iload_n hc dX12_longest_94 rfl rfl ?_
        refine V.if_le hc (tgt := 104) dX12_longest_95 (by decide) g20 (fun c34 => ?_) (fun c34 => ?_)
        · have q35 := q33 c34
          obtain ⟨g21, g22, g23, g24⟩ := q35
          refine V.iload hc dX12_longest_104 rfl ?_
          refine V.aload_n (t := 12) hc dX12_longest_106 rfl rfl ?_
          refine V.gR hc gR_X12_43 (i' := o) rfl dX12_longest_107 ?_
          refine V.sipush hc dX12_longest_110 (by decide) ?_
          refine V.ald hc ak_56 (by omega) dX12_longest_113 ?_
          refine V.iconst hc dX12_longest_114 ?_
          refine V.isub hc dX12_longest_115 ?_
          refine V.aload_n (t := 12) hc dX12_longest_116 rfl rfl ?_
          refine V.gR hc gR_X12_69 (i' := o) rfl dX12_longest_117 ?_
          refine V.iload hc dX12_longest_120 rfl ?_
          refine V.aload_n (t := 12) hc dX12_longest_122 rfl rfl ?_
          refine V.gR hc gR_X12_69 (i' := o) rfl dX12_longest_123 ?_
          refine V.aln hc ak_61 dX12_longest_126 ?_
          refine V.irem hc g21 (by omega) dX12_longest_127 ?_
          refine V.ald hc ak_61 g22 dX12_longest_128 ?_
          refine V.isub hc dX12_longest_129 ?_
          refine V.mmax hc ml_X12_255 rfl rfl g23 g24 dX12_longest_130 ?_
          refine V.istore hc dX12_longest_133 rfl (lo' := [(22, o), (0, a1), (0, a2), (0, l3), (0, l4), (0, max l5 (((h17 56 o 3084) - 1) - (h17 61 o (l4 % 420)))), (0, l6)]) rfl ?_
          refine V.iinc hc dX12_longest_135 rfl rfl (lo' := [(22, o), (0, a1), (0, a2), (0, l3), (0, l4 + 1), (0, max l5 (((h17 56 o 3084) - 1) - (h17 61 o (l4 % 420)))), (0, l6)]) rfl ?_
          exact kJ29 _ _ _ ⟨fun _ => ⟨fun _ => ⟨rfl, rfl, rfl⟩, (fun q => absurd c34 q)⟩, (fun q => absurd c31 q)⟩
        · refine V.iinc hc dX12_longest_98 rfl rfl (lo' := [(22, o), (0, a1), (0, a2), (0, l3 + (-1)), (0, l4), (0, l5), (0, l6)]) rfl ?_
          refine V.goto hc (tgt := 138) dX12_longest_101 (by decide) ?_
          exact kJ29 _ _ _ ⟨fun _ => ⟨(fun q => absurd q c34), fun _ => ⟨rfl, rfl, rfl⟩⟩, (fun q => absurd c31 q)⟩
      · refine V.goto hc (tgt := 138) dX12_longest_91 (by decide) ?_
        exact kJ29 _ _ _ ⟨(fun q => absurd q c31), fun _ => ⟨rfl, rfl, rfl⟩⟩
theorem qX12_longest (G : GG) (l : Launch) (o : Int) (a1 : Int) (a2 : Int) (h : HP) (P : Int → HP → Prop) (hw : wX12_longest o a1 a2 h P) : CnI l G yX12_longest cX12_longest 7 (some .int) 40 [(22, o), (0, a1), (0, a2)] h P := by
  refine CnI.of (lo := [(22, o), (0, a1), (0, a2), (1, 0), (1, 0), (1, 0), (1, 0)]) (by decide) rfl rfl rfl ?_
  intro p e s m args below meth c hc hr
  have hc : VC G p (rmD 40 0) s m args meth c RX12 cX12_longest 7 40 := hc
  refine V.aload_n (t := 12) hc dX12_longest_0 rfl rfl ?_
  refine V.iconst hc dX12_longest_1 ?_
  refine V.pI hc pI_X12_118 rfl dX12_longest_2 (fun h1 e => ?_)
  replace hw := hw h1 e
  clear e
  refine V.aload_n (t := 12) hc dX12_longest_5 rfl rfl ?_
  refine V.iload_n hc dX12_longest_6 rfl rfl ?_
  refine V.callVI hc (qX12_isLeafThere G l _ _ _ _ hw) mo_X12_isLeafThere ml_X12_366 (by rfl) rfl rfl (as := [(0, a1)]) rfl rfl rfl rfl rfl ⟨Nat.zero_le _, Nat.zero_le _⟩ dX12_longest_7 (fun x3 h2 hw => ?_)
  obtain ⟨g4, hw⟩ := hw
  refine V.if_ne hc (tgt := 19) dX12_longest_10 (by decide) g4 (fun c5 => ?_) (fun c5 => ?_)
  · replace hw := hw.1 c5
    refine V.iload_n hc dX12_longest_19 rfl rfl ?_
    refine V.iconst hc dX12_longest_20 ?_
    refine V.sipush hc dX12_longest_21 (by decide) ?_
    refine V.callSI hc (qX12_isIn G l _ _ _ _ _ hw) mo_X12_isIn ml_X12_356 (as := [(0, a2), (0, 1), (0, 200)]) rfl rfl rfl rfl rfl ⟨Nat.zero_le _, Nat.zero_le _⟩ dX12_longest_24 (fun x7 h6 hw => ?_)
    obtain ⟨g8, hw⟩ := hw
    refine V.if_ne hc (tgt := 36) dX12_longest_27 (by decide) g8 (fun c9 => ?_) (fun c9 => ?_)
    · replace hw := hw.1 c9
      refine V.aload_n (t := 12) hc dX12_longest_36 rfl rfl ?_
      refine V.callVV hc (qX12_rememberNow G l _ _ _ hw) mo_X12_rememberNow ml_X12_402 (by rfl) rfl rfl (as := []) rfl rfl rfl rfl rfl ⟨Nat.zero_le _, Nat.zero_le _⟩ dX12_longest_37 (fun h10 hw => ?_)
      refine V.aload_n (t := 12) hc dX12_longest_40 rfl rfl ?_
      refine V.gR hc gR_X12_43 (i' := o) rfl dX12_longest_41 ?_
      refine V.sipush hc dX12_longest_44 (by decide) ?_
      refine V.iload_n hc dX12_longest_47 rfl rfl ?_
      refine V.imul hc dX12_longest_48 ?_
      refine V.bipush hc dX12_longest_49 (by decide) ?_
      refine V.iadd hc dX12_longest_51 ?_
      obtain ⟨g11, hw⟩ := hw
      refine V.ald hc ak_56 g11 dX12_longest_52 ?_
      refine V.istore_n hc dX12_longest_53 rfl rfl (lo' := [(22, o), (0, a1), (0, a2), (0, h10 56 o ((257 * a1) + 17)), (1, 0), (1, 0), (1, 0)]) rfl ?_
      refine V.iconst hc dX12_longest_54 ?_
      refine V.istore hc dX12_longest_55 rfl (lo' := [(22, o), (0, a1), (0, a2), (0, h10 56 o ((257 * a1) + 17)), (0, 0), (1, 0), (1, 0)]) rfl ?_
      refine V.iconst hc dX12_longest_57 ?_
      refine V.istore hc dX12_longest_58 rfl (lo' := [(22, o), (0, a1), (0, a2), (0, h10 56 o ((257 * a1) + 17)), (0, 0), (0, (-1)), (1, 0)]) rfl ?_
      refine V.aload_n (t := 12) hc dX12_longest_60 rfl rfl ?_
      refine V.iload_n hc dX12_longest_61 rfl rfl ?_
      refine V.pI hc pI_X12_66 rfl dX12_longest_62 (fun h12 e => ?_)
      replace hw := hw h12 e
      clear e
      refine V.aload_n (t := 12) hc dX12_longest_65 rfl rfl ?_
      refine V.iconst hc dX12_longest_66 ?_
      refine V.pI hc pI_X12_332 rfl dX12_longest_67 (fun h13 e => ?_)
      replace hw := hw h13 e
      clear e
      refine V.iconst hc dX12_longest_70 ?_
      refine V.istore hc dX12_longest_71 rfl (lo' := [(22, o), (0, a1), (0, a2), (0, h10 56 o ((257 * a1) + 17)), (0, 0), (0, (-1)), (0, 0)]) rfl ?_
      obtain ⟨f36, hw⟩ := hw
      refine tX12_longest_73 hc hr ?_ f36 _ _ _ _ _ hw
      · intro l37 h38 hw
        refine V.aload_n (t := 12) hc dX12_longest_144 rfl rfl ?_
        refine V.iconst hc dX12_longest_145 ?_
        refine V.pI hc pI_X12_66 rfl dX12_longest_146 (fun h39 e => ?_)
        replace hw := hw h39 e
        clear e
        refine V.aload_n (t := 12) hc dX12_longest_149 rfl rfl ?_
        refine V.iload hc dX12_longest_150 rfl ?_
        refine V.callVI hc (qX12_back G l _ _ _ _ hw) mo_X12_back ml_X12_405 (by rfl) rfl rfl (as := [(0, l37)]) rfl rfl rfl rfl rfl ⟨Nat.zero_le _, Nat.zero_le _⟩ dX12_longest_152 (fun x41 h40 hw => ?_)
        exact V.iret hc hr dX12_longest_155 hw
    · replace hw := hw.2 c9
      refine V.aload_n (t := 12) hc dX12_longest_30 rfl rfl ?_
      refine V.iconst hc dX12_longest_31 ?_
      refine V.callVI hc (qX12_fail G l _ _ _ _ hw) mo_X12_fail ml_X12_219 (by rfl) rfl rfl (as := [(0, 2)]) rfl rfl rfl rfl rfl ⟨Nat.zero_le _, Nat.zero_le _⟩ dX12_longest_32 (fun x43 h42 hw => ?_)
      exact V.iret hc hr dX12_longest_35 hw
  · replace hw := hw.2 c5
    refine V.aload_n (t := 12) hc dX12_longest_13 rfl rfl ?_
    refine V.iconst hc dX12_longest_14 ?_
    refine V.callVI hc (qX12_fail G l _ _ _ _ hw) mo_X12_fail ml_X12_219 (by rfl) rfl rfl (as := [(0, 1)]) rfl rfl rfl rfl rfl ⟨Nat.zero_le _, Nat.zero_le _⟩ dX12_longest_15 (fun x45 h44 hw => ?_)
    exact V.iret hc hr dX12_longest_18 hw
theorem tX12_toShare_54 {G : GG} {p : Program} {l : Launch} {e : Jvm.Env} {s : State} {m : MethodId} {args : Array Value} {below : List Frame} {meth : Method} {c : Code} {P : Int → HP → Prop} (hc : VC G p (rmD 41 0) s m args meth c RX12 cX12_toShare 7 41) (hr : meth.sig.returnType = some .int) {o : Int} {a1 : Int} {a2 : Int} {a3 : Int} {K139 : HP → Prop} {K130 : Int → HP → Prop} (hK139 : ∀  (h : HP), K139  h → V G p l e (rmD 41 0) s m args below meth c (MQ below (QI G P) args s 0 0 (va_Aof G)) 7 139 [(1, 0), (1, 0), (1, 0), (1, 0), (1, 0), (1, 0), (1, 0)] [] h 0) (hK130 : ∀ (x4 : Int) (h : HP), K130 x4 h → V G p l e (rmD 41 0) s m args below meth c (MQ below (QI G P) args s 0 0 (va_Aof G)) 7 130 [(1, 0), (1, 0), (1, 0), (1, 0), (0, x4), (1, 0), (1, 0)] [] h 0) : ∀ (f : Nat) (l4 : Int) (h : HP), wX12_toShare_54 o a1 a2 a3 K139 K130 f l4 h → V G p l e (rmD 41 0) s m args below meth c (MQ below (QI G P) args s 0 0 (va_Aof G)) 7 54 [(22, o), (0, a1), (0, a2), (0, a3), (0, l4), (1, 0), (1, 0)] [] h 0 := by
  intro f
  induction f with
  | zero =>
    intro l4 h hw
    exact hw.elim
  | succ f ih =>
    intro l4 h hw
    refine V.iload hc dX12_toShare_54 rfl ?_
    refine V.bipush hc dX12_toShare_56 (by decide) ?_
    obtain ⟨g17, hw⟩ := hw
    refine V.icmp_gt hc (tgt := 139) dX12_toShare_58 (by decide) g17 (by omega) (fun c18 => ?_) (fun c18 => ?_)
    · replace hw := hw.1 c18
      refine V.drop (lo' := [(1, 0), (1, 0), (1, 0), (1, 0), (1, 0), (1, 0), (1, 0)]) ⟨Or.inl rfl, Or.inl rfl, Or.inl rfl, Or.inl rfl, Or.inl rfl, Or.inr rfl, Or.inr rfl, trivial⟩ ?_
      exact hK139 _ hw
    · replace hw := hw.2 c18
      refine V.aload_n (t := 12) hc dX12_toShare_61 rfl rfl ?_
      refine V.gR hc gR_X12_43 (i' := o) rfl dX12_toShare_62 ?_
      refine V.sipush hc dX12_toShare_65 (by decide) ?_
      refine V.iload_n hc dX12_toShare_68 rfl rfl ?_
      refine V.imul hc dX12_toShare_69 ?_
      refine V.bipush hc dX12_toShare_70 (by decide) ?_
      refine V.iadd hc dX12_toShare_72 ?_
      obtain ⟨g19, hw⟩ := hw
      refine V.ald hc ak_56 g19 dX12_toShare_73 ?_
      refine V.istore hc dX12_toShare_74 rfl (lo' := [(22, o), (0, a1), (0, a2), (0, a3), (0, l4), (0, h 56 o ((257 * a1) + 12)), (1, 0)]) rfl ?_
      refine V.aload_n (t := 12) hc dX12_toShare_76 rfl rfl ?_
      refine V.iload_n hc dX12_toShare_77 rfl rfl ?_
      refine V.iconst hc dX12_toShare_78 ?_
      refine V.iload hc dX12_toShare_79 rfl ?_
      refine V.iconst hc dX12_toShare_81 ?_
      refine V.iload hc dX12_toShare_82 rfl ?_
      refine V.callVV hc (qX12_bend G l _ _ _ _ _ _ _ _ hw) mo_X12_bend ml_X12_382 (by rfl) rfl rfl (as := [(0, a1), (0, 1), (0, l4), (0, 0), (0, l4)]) rfl rfl rfl rfl rfl ⟨Nat.zero_le _, Nat.zero_le _⟩ dX12_toShare_84 (fun h20 hw => ?_)
      refine V.aload_n (t := 12) hc dX12_toShare_87 rfl rfl ?_
      refine V.iload_n hc dX12_toShare_88 rfl rfl ?_
      refine V.callVV hc (qX12_goOn G l _ _ _ _ hw) mo_X12_goOn ml_X12_375 (by rfl) rfl rfl (as := [(0, a3)]) rfl rfl rfl rfl rfl ⟨Nat.zero_le _, Nat.zero_le _⟩ dX12_toShare_89 (fun h21 hw => ?_)
      refine V.aload_n (t := 12) hc dX12_toShare_92 rfl rfl ?_
      refine V.gR hc gR_X12_43 (i' := o) rfl dX12_toShare_93 ?_
      refine V.sipush hc dX12_toShare_96 (by decide) ?_
      refine V.iload_n hc dX12_toShare_99 rfl rfl ?_
      refine V.imul hc dX12_toShare_100 ?_
      refine V.bipush hc dX12_toShare_101 (by decide) ?_
      refine V.iadd hc dX12_toShare_103 ?_
      obtain ⟨g22, hw⟩ := hw
      refine V.ald hc ak_56 g22 dX12_toShare_104 ?_
      refine V.iload hc dX12_toShare_105 rfl ?_
      refine V.isub hc dX12_toShare_107 ?_
      refine V.iload_n hc dX12_toShare_108 rfl rfl ?_
      obtain ⟨q26, hw⟩ := hw
      have kJ31 : ∀ t25 : Int, (((h21 56 o ((257 * a1) + 12)) - (h 56 o ((257 * a1) + 12)) < a2 → t25 = 0) ∧ (¬ (h21 56 o ((257 * a1) + 12)) - (h 56 o ((257 * a1) + 12)) < a2 → t25 = 1)) → V G p l e (rmD 41 0) s m args below meth c (MQ below (QI G P) args s 0 0 (va_Aof G)) 7 117 [(22, o), (0, a1), (0, a2), (0, a3), (0, l4), (1, 0), (1, 0)] [(0, t25)] h21 0 := by
        intro t25 he
        replace hw := hw t25 he
        clear he
        refine V.istore hc dX12_toShare_117 rfl (lo' := [(22, o), (0, a1), (0, a2), (0, a3), (0, l4), (1, 0), (0, t25)]) rfl ?_
        refine V.aload_n (t := 12) hc dX12_toShare_119 rfl rfl ?_
        refine V.iconst hc dX12_toShare_120 ?_
        refine V.callVI hc (qX12_back G l _ _ _ _ hw) mo_X12_back ml_X12_405 (by rfl) rfl rfl (as := [(0, 0)]) rfl rfl rfl rfl rfl ⟨Nat.zero_le _, Nat.zero_le _⟩ dX12_toShare_121 (fun x28 h27 hw => ?_)
        refine V.pop hc dX12_toShare_124 (by show (0 : Nat) ≠ 2; omega) ?_
        refine V.iload hc dX12_toShare_125 rfl ?_
        obtain ⟨g29, hw⟩ := hw
        refine V.if_eq hc (tgt := 133) dX12_toShare_127 (by decide) g29 (fun c30 => ?_) (fun c30 => ?_)
        · replace hw := hw.1 c30
          refine V.iinc hc dX12_toShare_133 rfl rfl (lo' := [(22, o), (0, a1), (0, a2), (0, a3), (0, l4 + 1), (1, 0), (0, t25)]) rfl ?_
          refine V.goto hc (tgt := 54) dX12_toShare_136 (by decide) ?_
          refine V.drop (lo' := [(22, o), (0, a1), (0, a2), (0, a3), (0, l4 + 1), (1, 0), (1, 0)]) ⟨Or.inr rfl, Or.inr rfl, Or.inr rfl, Or.inr rfl, Or.inr rfl, Or.inr rfl, Or.inl rfl, trivial⟩ ?_
          exact ih _ _ hw
        · replace hw := hw.2 c30
          refine V.drop (lo' := [(1, 0), (1, 0), (1, 0), (1, 0), (0, l4), (1, 0), (1, 0)]) ⟨Or.inl rfl, Or.inl rfl, Or.inl rfl, Or.inl rfl, Or.inr rfl, Or.inr rfl, Or.inl rfl, trivial⟩ ?_
          exact hK130 _ _ hw
      obtain ⟨g23, g24⟩ := q26
      refine V.icmp_lt hc (tgt := 116) dX12_toShare_109 (by decide) g23 g24 (fun c32 => ?_) (fun c32 => ?_)
      · refine V.iconst hc dX12_toShare_116 ?_
        refine V.drop (lo' := [(22, o), (0, a1), (0, a2), (0, a3), (0, l4), (1, 0), (1, 0)]) ⟨Or.inr rfl, Or.inr rfl, Or.inr rfl, Or.inr rfl, Or.inr rfl, Or.inl rfl, Or.inr rfl, trivial⟩ ?_
        exact kJ31 _ ⟨fun _ => rfl, (fun q => absurd c32 q)⟩
      · refine V.iconst hc dX12_toShare_112 ?_
        refine V.goto hc (tgt := 117) dX12_toShare_113 (by decide) ?_
        refine V.drop (lo' := [(22, o), (0, a1), (0, a2), (0, a3), (0, l4), (1, 0), (1, 0)]) ⟨Or.inr rfl, Or.inr rfl, Or.inr rfl, Or.inr rfl, Or.inr rfl, Or.inl rfl, Or.inr rfl, trivial⟩ ?_
        exact kJ31 _ ⟨(fun q => absurd q c32), fun _ => rfl⟩
theorem qX12_toShare (G : GG) (l : Launch) (o : Int) (a1 : Int) (a2 : Int) (a3 : Int) (h : HP) (P : Int → HP → Prop) (hw : wX12_toShare o a1 a2 a3 h P) : CnI l G yX12_toShare cX12_toShare 7 (some .int) 41 [(22, o), (0, a1), (0, a2), (0, a3)] h P := by
  refine CnI.of (lo := [(22, o), (0, a1), (0, a2), (0, a3), (1, 0), (1, 0), (1, 0)]) (by decide) rfl rfl rfl ?_
  intro p e s m args below meth c hc hr
  have hc : VC G p (rmD 41 0) s m args meth c RX12 cX12_toShare 7 41 := hc
  refine V.aload_n (t := 12) hc dX12_toShare_0 rfl rfl ?_
  refine V.iconst hc dX12_toShare_1 ?_
  refine V.pI hc pI_X12_118 rfl dX12_toShare_2 (fun h1 e => ?_)
  replace hw := hw h1 e
  clear e
  refine V.aload_n (t := 12) hc dX12_toShare_5 rfl rfl ?_
  refine V.iload_n hc dX12_toShare_6 rfl rfl ?_
  refine V.callVI hc (qX12_isClass G l _ _ _ _ hw) mo_X12_isClass ml_X12_360 (by rfl) rfl rfl (as := [(0, a1)]) rfl rfl rfl rfl rfl ⟨Nat.zero_le _, Nat.zero_le _⟩ dX12_toShare_7 (fun x3 h2 hw => ?_)
  obtain ⟨g4, hw⟩ := hw
  refine V.if_ne hc (tgt := 19) dX12_toShare_10 (by decide) g4 (fun c5 => ?_) (fun c5 => ?_)
  · replace hw := hw.1 c5
    refine V.iload_n hc dX12_toShare_19 rfl rfl ?_
    refine V.iconst hc dX12_toShare_20 ?_
    refine V.sipush hc dX12_toShare_21 (by decide) ?_
    refine V.callSI hc (qX12_isIn G l _ _ _ _ _ hw) mo_X12_isIn ml_X12_356 (as := [(0, a2), (0, 1), (0, 999)]) rfl rfl rfl rfl rfl ⟨Nat.zero_le _, Nat.zero_le _⟩ dX12_toShare_24 (fun x7 h6 hw => ?_)
    obtain ⟨g8, hw⟩ := hw
    refine V.if_eq hc (tgt := 41) dX12_toShare_27 (by decide) g8 (fun c9 => ?_) (fun c9 => ?_)
    · replace hw := hw.1 c9
      refine V.aload_n (t := 12) hc dX12_toShare_41 rfl rfl ?_
      refine V.iconst hc dX12_toShare_42 ?_
      refine V.callVI hc (qX12_fail G l _ _ _ _ hw) mo_X12_fail ml_X12_219 (by rfl) rfl rfl (as := [(0, 2)]) rfl rfl rfl rfl rfl ⟨Nat.zero_le _, Nat.zero_le _⟩ dX12_toShare_43 (fun x11 h10 hw => ?_)
      exact V.iret hc hr dX12_toShare_46 hw
    · replace hw := hw.2 c9
      refine V.iload_n hc dX12_toShare_30 rfl rfl ?_
      refine V.iconst hc dX12_toShare_31 ?_
      refine V.sipush hc dX12_toShare_32 (by decide) ?_
      refine V.callSI hc (qX12_isIn G l _ _ _ _ _ hw) mo_X12_isIn ml_X12_356 (as := [(0, a3), (0, 1), (0, 200)]) rfl rfl rfl rfl rfl ⟨Nat.zero_le _, Nat.zero_le _⟩ dX12_toShare_35 (fun x13 h12 hw => ?_)
      obtain ⟨g14, hw⟩ := hw
      refine V.if_ne hc (tgt := 47) dX12_toShare_38 (by decide) g14 (fun c15 => ?_) (fun c15 => ?_)
      · replace hw := hw.1 c15
        refine V.aload_n (t := 12) hc dX12_toShare_47 rfl rfl ?_
        refine V.callVV hc (qX12_rememberNow G l _ _ _ hw) mo_X12_rememberNow ml_X12_402 (by rfl) rfl rfl (as := []) rfl rfl rfl rfl rfl ⟨Nat.zero_le _, Nat.zero_le _⟩ dX12_toShare_48 (fun h16 hw => ?_)
        refine V.iconst hc dX12_toShare_51 ?_
        refine V.istore hc dX12_toShare_52 rfl (lo' := [(22, o), (0, a1), (0, a2), (0, a3), (0, 1), (1, 0), (1, 0)]) rfl ?_
        obtain ⟨f33, hw⟩ := hw
        refine tX12_toShare_54 hc hr ?_ ?_ f33 _ _ hw
        · intro h34 hw
          refine V.iconst hc dX12_toShare_139 ?_
          exact V.iret hc hr dX12_toShare_140 hw
        · intro l35 h36 hw
          refine V.iload hc dX12_toShare_130 rfl ?_
          exact V.iret hc hr dX12_toShare_132 hw
      · replace hw := hw.2 c15
        refine V.aload_n (t := 12) hc dX12_toShare_41 rfl rfl ?_
        refine V.iconst hc dX12_toShare_42 ?_
        refine V.callVI hc (qX12_fail G l _ _ _ _ hw) mo_X12_fail ml_X12_219 (by rfl) rfl rfl (as := [(0, 2)]) rfl rfl rfl rfl rfl ⟨Nat.zero_le _, Nat.zero_le _⟩ dX12_toShare_43 (fun x38 h37 hw => ?_)
        exact V.iret hc hr dX12_toShare_46 hw
  · replace hw := hw.2 c5
    refine V.aload_n (t := 12) hc dX12_toShare_13 rfl rfl ?_
    refine V.iconst hc dX12_toShare_14 ?_
    refine V.callVI hc (qX12_fail G l _ _ _ _ hw) mo_X12_fail ml_X12_219 (by rfl) rfl rfl (as := [(0, 1)]) rfl rfl rfl rfl rfl ⟨Nat.zero_le _, Nat.zero_le _⟩ dX12_toShare_15 (fun x40 h39 hw => ?_)
    exact V.iret hc hr dX12_toShare_18 hw
theorem tX12_toCap_111 {G : GG} {p : Program} {l : Launch} {e : Jvm.Env} {s : State} {m : MethodId} {args : Array Value} {below : List Frame} {meth : Method} {c : Code} {P : Int → HP → Prop} (hc : VC G p (rmD 41 0) s m args meth c RX12 cX12_toCap 7 41) (hr : meth.sig.returnType = some .int) {o : Int} {a1 : Int} {a2 : Int} {a3 : Int} {l4 : Int} {l5 : Int} {h : HP} {K67 : Int → HP → Prop} (hK67 : ∀ (x5 : Int) (h : HP), K67 x5 h → V G p l e (rmD 41 0) s m args below meth c (MQ below (QI G P) args s 0 0 (va_Aof G)) 7 67 [(22, o), (0, a1), (0, a2), (0, a3), (0, l4), (0, x5), (1, 0)] [] h 0) (hw : wX12_toCap_111 o a1 a2 a3 l4 l5 K67 h) : V G p l e (rmD 41 0) s m args below meth c (MQ below (QI G P) args s 0 0 (va_Aof G)) 7 111 [(22, o), (0, a1), (0, a2), (0, a3), (0, l4), (0, l5), (1, 0)] [] h 0 := by
  refine V.iinc hc dX12_toCap_111 rfl rfl (lo' := [(22, o), (0, a1), (0, a2), (0, a3), (0, l4), (0, l5 + (-1)), (1, 0)]) rfl ?_
  refine V.goto hc (tgt := 67) dX12_toCap_114 (by decide) ?_
  exact hK67 _ _ hw
theorem tX12_toCap_67 {G : GG} {p : Program} {l : Launch} {e : Jvm.Env} {s : State} {m : MethodId} {args : Array Value} {below : List Frame} {meth : Method} {c : Code} {P : Int → HP → Prop} (hc : VC G p (rmD 41 0) s m args meth c RX12 cX12_toCap 7 41) (hr : meth.sig.returnType = some .int) {o : Int} {a1 : Int} {a2 : Int} {a3 : Int} {l4 : Int} {K117 : HP → Prop} {K108 : Int → HP → Prop} (hK117 : ∀  (h : HP), K117  h → V G p l e (rmD 41 0) s m args below meth c (MQ below (QI G P) args s 0 0 (va_Aof G)) 7 117 [(1, 0), (1, 0), (1, 0), (1, 0), (1, 0), (1, 0), (1, 0)] [] h 0) (hK108 : ∀ (x5 : Int) (h : HP), K108 x5 h → V G p l e (rmD 41 0) s m args below meth c (MQ below (QI G P) args s 0 0 (va_Aof G)) 7 108 [(1, 0), (1, 0), (1, 0), (1, 0), (1, 0), (0, x5), (1, 0)] [] h 0) : ∀ (f : Nat) (l5 : Int) (h : HP), wX12_toCap_67 o a1 a2 a3 l4 K117 K108 f l5 h → V G p l e (rmD 41 0) s m args below meth c (MQ below (QI G P) args s 0 0 (va_Aof G)) 7 67 [(22, o), (0, a1), (0, a2), (0, a3), (0, l4), (0, l5), (1, 0)] [] h 0 := by
  intro f
  induction f with
  | zero =>
    intro l5 h hw
    exact hw.elim
  | succ f ih =>
    intro l5 h hw
    refine V.iload hc dX12_toCap_67 rfl ?_
    obtain ⟨g18, hw⟩ := hw
    refine V.if_le hc (tgt := 117) dX12_toCap_69 (by decide) g18 (fun c19 => ?_) (fun c19 => ?_)
    · replace hw := hw.1 c19
      refine V.drop (lo' := [(1, 0), (1, 0), (1, 0), (1, 0), (1, 0), (1, 0), (1, 0)]) ⟨Or.inl rfl, Or.inl rfl, Or.inl rfl, Or.inl rfl, Or.inl rfl, Or.inl rfl, Or.inr rfl, trivial⟩ ?_
      exact hK117 _ hw
    · replace hw := hw.2 c19
      refine V.aload_n (t := 12) hc dX12_toCap_72 rfl rfl ?_
      refine V.iload_n hc dX12_toCap_73 rfl rfl ?_
      refine V.iconst hc dX12_toCap_74 ?_
      refine V.iload hc dX12_toCap_75 rfl ?_
      refine V.iconst hc dX12_toCap_77 ?_
      refine V.iload hc dX12_toCap_78 rfl ?_
      refine V.callVV hc (qX12_bend G l _ _ _ _ _ _ _ _ hw) mo_X12_bend ml_X12_382 (by rfl) rfl rfl (as := [(0, a1), (0, 2), (0, l5), (0, 0), (0, l5)]) rfl rfl rfl rfl rfl ⟨Nat.zero_le _, Nat.zero_le _⟩ dX12_toCap_80 (fun h20 hw => ?_)
      refine V.aload_n (t := 12) hc dX12_toCap_83 rfl rfl ?_
      refine V.aload_n (t := 12) hc dX12_toCap_84 rfl rfl ?_
      refine V.iload_n hc dX12_toCap_85 rfl rfl ?_
      refine V.iload hc dX12_toCap_86 rfl ?_
      refine V.callVI hc (qX12_unitsTill G l _ _ _ _ _ hw) mo_X12_unitsTill ml_X12_411 (by rfl) rfl rfl (as := [(0, a2), (0, l4)]) rfl rfl rfl rfl rfl ⟨Nat.zero_le _, Nat.zero_le _⟩ dX12_toCap_88 (fun x22 h21 hw => ?_)
      refine V.callVI hc (qX12_back G l _ _ _ _ hw) mo_X12_back ml_X12_405 (by rfl) rfl rfl (as := [(0, x22)]) rfl rfl rfl rfl rfl ⟨Nat.zero_le _, Nat.zero_le _⟩ dX12_toCap_91 (fun x24 h23 hw => ?_)
      refine V.istore hc dX12_toCap_94 rfl (lo' := [(22, o), (0, a1), (0, a2), (0, a3), (0, l4), (0, l5), (0, x24)]) rfl ?_
      refine V.iload hc dX12_toCap_96 rfl ?_
      refine V.iconst hc dX12_toCap_98 ?_
      obtain ⟨g25, hw⟩ := hw
      refine V.icmp_eq hc (tgt := 111) dX12_toCap_99 (by decide) g25 (by omega) (fun c26 => ?_) (fun c26 => ?_)
      · replace hw := hw.1 c26
        refine V.drop (lo' := [(22, o), (0, a1), (0, a2), (0, a3), (0, l4), (0, l5), (1, 0)]) ⟨Or.inr rfl, Or.inr rfl, Or.inr rfl, Or.inr rfl, Or.inr rfl, Or.inr rfl, Or.inl rfl, trivial⟩ ?_
        exact tX12_toCap_111 hc hr (fun y5 hy hw => by exact ih _ _ hw) hw
      · replace hw := hw.2 c26
        refine V.iload hc dX12_toCap_102 rfl ?_
        refine V.iload_n hc dX12_toCap_104 rfl rfl ?_
        obtain ⟨g27, hw⟩ := hw
        obtain ⟨g28, hw⟩ := hw
        refine V.icmp_gt hc (tgt := 111) dX12_toCap_105 (by decide) g27 g28 (fun c29 => ?_) (fun c29 => ?_)
        · replace hw := hw.1 c29
          refine V.drop (lo' := [(22, o), (0, a1), (0, a2), (0, a3), (0, l4), (0, l5), (1, 0)]) ⟨Or.inr rfl, Or.inr rfl, Or.inr rfl, Or.inr rfl, Or.inr rfl, Or.inr rfl, Or.inl rfl, trivial⟩ ?_
          exact tX12_toCap_111 hc hr (fun y5 hy hw => by exact ih _ _ hw) hw
        · replace hw := hw.2 c29
          refine V.drop (lo' := [(1, 0), (1, 0), (1, 0), (1, 0), (1, 0), (0, l5), (1, 0)]) ⟨Or.inl rfl, Or.inl rfl, Or.inl rfl, Or.inl rfl, Or.inl rfl, Or.inr rfl, Or.inl rfl, trivial⟩ ?_
          exact hK108 _ _ hw
theorem qX12_toCap (G : GG) (l : Launch) (o : Int) (a1 : Int) (a2 : Int) (a3 : Int) (h : HP) (P : Int → HP → Prop) (hw : wX12_toCap o a1 a2 a3 h P) : CnI l G yX12_toCap cX12_toCap 7 (some .int) 41 [(22, o), (0, a1), (0, a2), (0, a3)] h P := by
  refine CnI.of (lo := [(22, o), (0, a1), (0, a2), (0, a3), (1, 0), (1, 0), (1, 0)]) (by decide) rfl rfl rfl ?_
  intro p e s m args below meth c hc hr
  have hc : VC G p (rmD 41 0) s m args meth c RX12 cX12_toCap 7 41 := hc
  refine V.aload_n (t := 12) hc dX12_toCap_0 rfl rfl ?_
  refine V.iconst hc dX12_toCap_1 ?_
  refine V.pI hc pI_X12_118 rfl dX12_toCap_2 (fun h1 e => ?_)
  replace hw := hw h1 e
  clear e
  refine V.aload_n (t := 12) hc dX12_toCap_5 rfl rfl ?_
  refine V.iload_n hc dX12_toCap_6 rfl rfl ?_
  refine V.callVI hc (qX12_isClass G l _ _ _ _ hw) mo_X12_isClass ml_X12_360 (by rfl) rfl rfl (as := [(0, a1)]) rfl rfl rfl rfl rfl ⟨Nat.zero_le _, Nat.zero_le _⟩ dX12_toCap_7 (fun x3 h2 hw => ?_)
  obtain ⟨g4, hw⟩ := hw
  refine V.if_eq hc (tgt := 21) dX12_toCap_10 (by decide) g4 (fun c5 => ?_) (fun c5 => ?_)
  · replace hw := hw.1 c5
    refine V.aload_n (t := 12) hc dX12_toCap_21 rfl rfl ?_
    refine V.iconst hc dX12_toCap_22 ?_
    refine V.callVI hc (qX12_fail G l _ _ _ _ hw) mo_X12_fail ml_X12_219 (by rfl) rfl rfl (as := [(0, 1)]) rfl rfl rfl rfl rfl ⟨Nat.zero_le _, Nat.zero_le _⟩ dX12_toCap_23 (fun x7 h6 hw => ?_)
    exact V.iret hc hr dX12_toCap_26 hw
  · replace hw := hw.2 c5
    refine V.aload_n (t := 12) hc dX12_toCap_13 rfl rfl ?_
    refine V.iload_n hc dX12_toCap_14 rfl rfl ?_
    refine V.callVI hc (qX12_hasPackets G l _ _ _ _ hw) mo_X12_hasPackets ml_X12_408 (by rfl) rfl rfl (as := [(0, a2)]) rfl rfl rfl rfl rfl ⟨Nat.zero_le _, Nat.zero_le _⟩ dX12_toCap_15 (fun x9 h8 hw => ?_)
    obtain ⟨g10, hw⟩ := hw
    refine V.if_ne hc (tgt := 27) dX12_toCap_18 (by decide) g10 (fun c11 => ?_) (fun c11 => ?_)
    · replace hw := hw.1 c11
      refine V.iload_n hc dX12_toCap_27 rfl rfl ?_
      refine V.iconst hc dX12_toCap_28 ?_
      refine V.sipush hc dX12_toCap_29 (by decide) ?_
      refine V.callSI hc (qX12_isIn G l _ _ _ _ _ hw) mo_X12_isIn ml_X12_356 (as := [(0, a3), (0, 0), (0, 399)]) rfl rfl rfl rfl rfl ⟨Nat.zero_le _, Nat.zero_le _⟩ dX12_toCap_32 (fun x13 h12 hw => ?_)
      obtain ⟨g14, hw⟩ := hw
      refine V.if_ne hc (tgt := 44) dX12_toCap_35 (by decide) g14 (fun c15 => ?_) (fun c15 => ?_)
      · replace hw := hw.1 c15
        refine V.aload_n (t := 12) hc dX12_toCap_44 rfl rfl ?_
        refine V.callVV hc (qX12_rememberNow G l _ _ _ hw) mo_X12_rememberNow ml_X12_402 (by rfl) rfl rfl (as := []) rfl rfl rfl rfl rfl ⟨Nat.zero_le _, Nat.zero_le _⟩ dX12_toCap_45 (fun h16 hw => ?_)
        refine V.aload_n (t := 12) hc dX12_toCap_48 rfl rfl ?_
        refine V.gR hc gR_X12_43 (i' := o) rfl dX12_toCap_49 ?_
        refine V.sipush hc dX12_toCap_52 (by decide) ?_
        refine V.iload_n hc dX12_toCap_55 rfl rfl ?_
        refine V.imul hc dX12_toCap_56 ?_
        refine V.bipush hc dX12_toCap_57 (by decide) ?_
        refine V.iadd hc dX12_toCap_59 ?_
        obtain ⟨g17, hw⟩ := hw
        refine V.ald hc ak_56 g17 dX12_toCap_60 ?_
        refine V.istore hc dX12_toCap_61 rfl (lo' := [(22, o), (0, a1), (0, a2), (0, a3), (0, h16 56 o ((257 * a2) + 17)), (1, 0), (1, 0)]) rfl ?_
        refine V.bipush hc dX12_toCap_63 (by decide) ?_
        refine V.istore hc dX12_toCap_65 rfl (lo' := [(22, o), (0, a1), (0, a2), (0, a3), (0, h16 56 o ((257 * a2) + 17)), (0, 100), (1, 0)]) rfl ?_
        obtain ⟨f30, hw⟩ := hw
        refine tX12_toCap_67 hc hr ?_ ?_ f30 _ _ hw
        · intro h31 hw
          refine V.iconst hc dX12_toCap_117 ?_
          exact V.iret hc hr dX12_toCap_118 hw
        · intro l32 h33 hw
          refine V.iload hc dX12_toCap_108 rfl ?_
          exact V.iret hc hr dX12_toCap_110 hw
      · replace hw := hw.2 c15
        refine V.aload_n (t := 12) hc dX12_toCap_38 rfl rfl ?_
        refine V.iconst hc dX12_toCap_39 ?_
        refine V.callVI hc (qX12_fail G l _ _ _ _ hw) mo_X12_fail ml_X12_219 (by rfl) rfl rfl (as := [(0, 2)]) rfl rfl rfl rfl rfl ⟨Nat.zero_le _, Nat.zero_le _⟩ dX12_toCap_40 (fun x35 h34 hw => ?_)
        exact V.iret hc hr dX12_toCap_43 hw
    · replace hw := hw.2 c11
      refine V.aload_n (t := 12) hc dX12_toCap_21 rfl rfl ?_
      refine V.iconst hc dX12_toCap_22 ?_
      refine V.callVI hc (qX12_fail G l _ _ _ _ hw) mo_X12_fail ml_X12_219 (by rfl) rfl rfl (as := [(0, 1)]) rfl rfl rfl rfl rfl ⟨Nat.zero_le _, Nat.zero_le _⟩ dX12_toCap_23 (fun x37 h36 hw => ?_)
      exact V.iret hc hr dX12_toCap_26 hw
theorem tX12_blocked_51 {G : GG} {p : Program} {l : Launch} {e : Jvm.Env} {s : State} {m : MethodId} {args : Array Value} {below : List Frame} {meth : Method} {c : Code} {P : Int → HP → Prop} (hc : VC G p (rmD 40 0) s m args meth c RX12 cX12_blocked 6 40) (hr : meth.sig.returnType = some .int) {o : Int} {a1 : Int} {a2 : Int} {K114 : Int → HP → Prop} (hK114 : ∀ (x4 : Int) (h : HP), K114 x4 h → V G p l e (rmD 40 0) s m args below meth c (MQ below (QI G P) args s 0 0 (va_Aof G)) 6 114 [(22, o), (1, 0), (1, 0), (1, 0), (0, x4), (1, 0)] [] h 0) : ∀ (f : Nat) (l3 : Int) (l4 : Int) (l5 : Int) (h : HP), wX12_blocked_51 o a1 a2 K114 f l3 l4 l5 h → V G p l e (rmD 40 0) s m args below meth c (MQ below (QI G P) args s 0 0 (va_Aof G)) 6 51 [(22, o), (0, a1), (0, a2), (0, l3), (0, l4), (0, l5)] [] h 0 := by
  intro f
  induction f with
  | zero =>
    intro l3 l4 l5 h hw
    exact hw.elim
  | succ f ih =>
    intro l3 l4 l5 h hw
    refine V.iload hc dX12_blocked_51 rfl ?_
    refine V.sipush hc dX12_blocked_53 (by decide) ?_
    obtain ⟨g14, hw⟩ := hw
    refine V.icmp_ge hc (tgt := 114) dX12_blocked_56 (by decide) g14 (by omega) (fun c15 => ?_) (fun c15 => ?_)
    · replace hw := hw.1 c15
      refine V.drop (lo' := [(22, o), (1, 0), (1, 0), (1, 0), (0, l4), (1, 0)]) ⟨Or.inr rfl, Or.inl rfl, Or.inl rfl, Or.inl rfl, Or.inr rfl, Or.inl rfl, trivial⟩ ?_
      exact hK114 _ _ hw
    · replace hw := hw.2 c15
      refine V.iload_n hc dX12_blocked_59 rfl rfl ?_
      obtain ⟨g16, hw⟩ := hw
      refine V.if_le hc (tgt := 114) dX12_blocked_60 (by decide) g16 (fun c17 => ?_) (fun c17 => ?_)
      · replace hw := hw.1 c17
        refine V.drop (lo' := [(22, o), (1, 0), (1, 0), (1, 0), (0, l4), (1, 0)]) ⟨Or.inr rfl, Or.inl rfl, Or.inl rfl, Or.inl rfl, Or.inr rfl, Or.inl rfl, trivial⟩ ?_
        exact hK114 _ _ hw
      · replace hw := hw.2 c17
        refine V.aload_n (t := 12) hc dX12_blocked_63 rfl rfl ?_
        refine V.callVV hc (qX12_unit G l _ _ _ hw) mo_X12_unit ml_X12_341 (by rfl) rfl rfl (as := []) rfl rfl rfl rfl rfl ⟨Nat.zero_le _, Nat.zero_le _⟩ dX12_blocked_64 (fun h18 hw => ?_)
        refine V.iload_n hc dX12_blocked_67 rfl rfl ?_
        refine V.aload_n (t := 12) hc dX12_blocked_68 rfl rfl ?_
        refine V.gI hc gI_X12_317 rfl dX12_blocked_69 ?_
        refine V.iload_n hc dX12_blocked_72 rfl rfl ?_
        obtain ⟨q22, hw⟩ := hw
        have kJ33 : ∀ t21 : Int, ((¬ h18 12 o 26 = a1 → t21 = 0) ∧ (h18 12 o 26 = a1 → t21 = 1)) → V G p l e (rmD 40 0) s m args below meth c (MQ below (QI G P) args s 0 0 (va_Aof G)) 6 81 [(22, o), (0, a1), (0, a2), (1, 0), (0, l4), (0, l5)] [(0, t21), (0, l3)] h18 0 := by
          intro t21 he
          replace hw := hw t21 he
          clear he
          refine V.isub hc dX12_blocked_81 ?_
          refine V.istore_n hc dX12_blocked_82 rfl rfl (lo' := [(22, o), (0, a1), (0, a2), (0, l3 - t21), (0, l4), (0, l5)]) rfl ?_
          refine V.iload hc dX12_blocked_83 rfl ?_
          refine V.aload_n (t := 12) hc dX12_blocked_85 rfl rfl ?_
          refine V.gI hc gI_X12_317 rfl dX12_blocked_86 ?_
          refine V.iload_n hc dX12_blocked_89 rfl rfl ?_
          obtain ⟨q27, hw⟩ := hw
          have kJ28 : ∀ t26 : Int, ((¬ h18 12 o 26 = a2 → t26 = 0) ∧ (h18 12 o 26 = a2 → ((l3 - t21 ≤ 0 → t26 = 0) ∧ (¬ l3 - t21 ≤ 0 → t26 = h18 12 o 27)))) → V G p l e (rmD 40 0) s m args below meth c (MQ below (QI G P) args s 0 0 (va_Aof G)) 6 105 [(22, o), (0, a1), (0, a2), (0, l3 - t21), (1, 0), (0, l5)] [(0, t26), (0, l4)] h18 0 := by
            intro t26 he
            replace hw := hw t26 he
            clear he
            refine V.iadd hc dX12_blocked_105 ?_
            refine V.istore hc dX12_blocked_106 rfl (lo' := [(22, o), (0, a1), (0, a2), (0, l3 - t21), (0, l4 + t26), (0, l5)]) rfl ?_
            refine V.iinc hc dX12_blocked_108 rfl rfl (lo' := [(22, o), (0, a1), (0, a2), (0, l3 - t21), (0, l4 + t26), (0, l5 + 1)]) rfl ?_
            refine V.goto hc (tgt := 51) dX12_blocked_111 (by decide) ?_
            exact ih _ _ _ _ hw
          obtain ⟨g23, g24, q29⟩ := q27
          refine V.icmp_ne hc (tgt := 104) dX12_blocked_90 (by decide) g23 g24 (fun c30 => ?_) (fun c30 => ?_)
          · refine V.iconst hc dX12_blocked_104 ?_
            refine V.drop (lo' := [(22, o), (0, a1), (0, a2), (0, l3 - t21), (1, 0), (0, l5)]) ⟨Or.inr rfl, Or.inr rfl, Or.inr rfl, Or.inr rfl, Or.inl rfl, Or.inr rfl, trivial⟩ ?_
            exact kJ28 _ ⟨fun _ => rfl, (fun q => absurd q c30)⟩
          · have q31 := q29 c30
            have g25 := q31
            refine V.iload_n hc dX12_blocked_93 rfl rfl ?_
            refine V.if_le hc (tgt := 104) dX12_blocked_94 (by decide) g25 (fun c32 => ?_) (fun c32 => ?_)
            · refine V.iconst hc dX12_blocked_104 ?_
              refine V.drop (lo' := [(22, o), (0, a1), (0, a2), (0, l3 - t21), (1, 0), (0, l5)]) ⟨Or.inr rfl, Or.inr rfl, Or.inr rfl, Or.inr rfl, Or.inl rfl, Or.inr rfl, trivial⟩ ?_
              exact kJ28 _ ⟨(fun q => absurd c30 q), fun _ => ⟨fun _ => rfl, (fun q => absurd c32 q)⟩⟩
            · refine V.aload_n (t := 12) hc dX12_blocked_97 rfl rfl ?_
              refine V.gI hc gI_X12_320 rfl dX12_blocked_98 ?_
              refine V.goto hc (tgt := 105) dX12_blocked_101 (by decide) ?_
              refine V.drop (lo' := [(22, o), (0, a1), (0, a2), (0, l3 - t21), (1, 0), (0, l5)]) ⟨Or.inr rfl, Or.inr rfl, Or.inr rfl, Or.inr rfl, Or.inl rfl, Or.inr rfl, trivial⟩ ?_
              exact kJ28 _ ⟨(fun q => absurd c30 q), fun _ => ⟨(fun q => absurd q c32), fun _ => rfl⟩⟩
        obtain ⟨g19, g20⟩ := q22
        refine V.icmp_ne hc (tgt := 80) dX12_blocked_73 (by decide) g19 g20 (fun c34 => ?_) (fun c34 => ?_)
        · refine V.iconst hc dX12_blocked_80 ?_
          refine V.drop (lo' := [(22, o), (0, a1), (0, a2), (1, 0), (0, l4), (0, l5)]) ⟨Or.inr rfl, Or.inr rfl, Or.inr rfl, Or.inl rfl, Or.inr rfl, Or.inr rfl, trivial⟩ ?_
          exact kJ33 _ ⟨fun _ => rfl, (fun q => absurd q c34)⟩
        · refine V.iconst hc dX12_blocked_76 ?_
          refine V.goto hc (tgt := 81) dX12_blocked_77 (by decide) ?_
          refine V.drop (lo' := [(22, o), (0, a1), (0, a2), (1, 0), (0, l4), (0, l5)]) ⟨Or.inr rfl, Or.inr rfl, Or.inr rfl, Or.inl rfl, Or.inr rfl, Or.inr rfl, trivial⟩ ?_
          exact kJ33 _ ⟨(fun q => absurd c34 q), fun _ => rfl⟩
theorem qX12_blocked (G : GG) (l : Launch) (o : Int) (a1 : Int) (a2 : Int) (h : HP) (P : Int → HP → Prop) (hw : wX12_blocked o a1 a2 h P) : CnI l G yX12_blocked cX12_blocked 6 (some .int) 40 [(22, o), (0, a1), (0, a2)] h P := by
  refine CnI.of (lo := [(22, o), (0, a1), (0, a2), (1, 0), (1, 0), (1, 0)]) (by decide) rfl rfl rfl ?_
  intro p e s m args below meth c hc hr
  have hc : VC G p (rmD 40 0) s m args meth c RX12 cX12_blocked 6 40 := hc
  refine V.aload_n (t := 12) hc dX12_blocked_0 rfl rfl ?_
  refine V.iconst hc dX12_blocked_1 ?_
  refine V.pI hc pI_X12_118 rfl dX12_blocked_2 (fun h1 e => ?_)
  replace hw := hw h1 e
  clear e
  refine V.aload_n (t := 12) hc dX12_blocked_5 rfl rfl ?_
  refine V.iload_n hc dX12_blocked_6 rfl rfl ?_
  refine V.callVI hc (qX12_hasPackets G l _ _ _ _ hw) mo_X12_hasPackets ml_X12_408 (by rfl) rfl rfl (as := [(0, a1)]) rfl rfl rfl rfl rfl ⟨Nat.zero_le _, Nat.zero_le _⟩ dX12_blocked_7 (fun x3 h2 hw => ?_)
  obtain ⟨g4, hw⟩ := hw
  refine V.if_eq hc (tgt := 21) dX12_blocked_10 (by decide) g4 (fun c5 => ?_) (fun c5 => ?_)
  · replace hw := hw.1 c5
    refine V.aload_n (t := 12) hc dX12_blocked_21 rfl rfl ?_
    refine V.iconst hc dX12_blocked_22 ?_
    refine V.callVI hc (qX12_fail G l _ _ _ _ hw) mo_X12_fail ml_X12_219 (by rfl) rfl rfl (as := [(0, 1)]) rfl rfl rfl rfl rfl ⟨Nat.zero_le _, Nat.zero_le _⟩ dX12_blocked_23 (fun x7 h6 hw => ?_)
    exact V.iret hc hr dX12_blocked_26 hw
  · replace hw := hw.2 c5
    refine V.aload_n (t := 12) hc dX12_blocked_13 rfl rfl ?_
    refine V.iload_n hc dX12_blocked_14 rfl rfl ?_
    refine V.callVI hc (qX12_isLeafThere G l _ _ _ _ hw) mo_X12_isLeafThere ml_X12_366 (by rfl) rfl rfl (as := [(0, a2)]) rfl rfl rfl rfl rfl ⟨Nat.zero_le _, Nat.zero_le _⟩ dX12_blocked_15 (fun x9 h8 hw => ?_)
    obtain ⟨g10, hw⟩ := hw
    refine V.if_ne hc (tgt := 27) dX12_blocked_18 (by decide) g10 (fun c11 => ?_) (fun c11 => ?_)
    · replace hw := hw.1 c11
      refine V.aload_n (t := 12) hc dX12_blocked_27 rfl rfl ?_
      refine V.callVV hc (qX12_rememberNow G l _ _ _ hw) mo_X12_rememberNow ml_X12_402 (by rfl) rfl rfl (as := []) rfl rfl rfl rfl rfl ⟨Nat.zero_le _, Nat.zero_le _⟩ dX12_blocked_28 (fun h12 hw => ?_)
      refine V.aload_n (t := 12) hc dX12_blocked_31 rfl rfl ?_
      refine V.gR hc gR_X12_43 (i' := o) rfl dX12_blocked_32 ?_
      refine V.sipush hc dX12_blocked_35 (by decide) ?_
      refine V.iload_n hc dX12_blocked_38 rfl rfl ?_
      refine V.imul hc dX12_blocked_39 ?_
      refine V.bipush hc dX12_blocked_40 (by decide) ?_
      refine V.iadd hc dX12_blocked_42 ?_
      obtain ⟨g13, hw⟩ := hw
      refine V.ald hc ak_56 g13 dX12_blocked_43 ?_
      refine V.istore_n hc dX12_blocked_44 rfl rfl (lo' := [(22, o), (0, a1), (0, a2), (0, h12 56 o ((257 * a1) + 17)), (1, 0), (1, 0)]) rfl ?_
      refine V.iconst hc dX12_blocked_45 ?_
      refine V.istore hc dX12_blocked_46 rfl (lo' := [(22, o), (0, a1), (0, a2), (0, h12 56 o ((257 * a1) + 17)), (0, 0), (1, 0)]) rfl ?_
      refine V.iconst hc dX12_blocked_48 ?_
      refine V.istore hc dX12_blocked_49 rfl (lo' := [(22, o), (0, a1), (0, a2), (0, h12 56 o ((257 * a1) + 17)), (0, 0), (0, 0)]) rfl ?_
      obtain ⟨f35, hw⟩ := hw
      refine tX12_blocked_51 hc hr ?_ f35 _ _ _ _ hw
      · intro l36 h37 hw
        refine V.aload_n (t := 12) hc dX12_blocked_114 rfl rfl ?_
        refine V.iload hc dX12_blocked_115 rfl ?_
        refine V.callVI hc (qX12_back G l _ _ _ _ hw) mo_X12_back ml_X12_405 (by rfl) rfl rfl (as := [(0, l36)]) rfl rfl rfl rfl rfl ⟨Nat.zero_le _, Nat.zero_le _⟩ dX12_blocked_117 (fun x39 h38 hw => ?_)
        exact V.iret hc hr dX12_blocked_120 hw
    · replace hw := hw.2 c11
      refine V.aload_n (t := 12) hc dX12_blocked_21 rfl rfl ?_
      refine V.iconst hc dX12_blocked_22 ?_
      refine V.callVI hc (qX12_fail G l _ _ _ _ hw) mo_X12_fail ml_X12_219 (by rfl) rfl rfl (as := [(0, 1)]) rfl rfl rfl rfl rfl ⟨Nat.zero_le _, Nat.zero_le _⟩ dX12_blocked_23 (fun x41 h40 hw => ?_)
      exact V.iret hc hr dX12_blocked_26 hw
