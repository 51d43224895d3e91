theorem qX6_fitOf (G : GG) (l : Launch) (o : Int) (a1 : Int) (h : HP) (P : Int → HP → Prop) (hw : wX6_fitOf o a1 h P) : CnI l G yX6_fitOf cX6_fitOf 2 (some .int) 10 [(16, o), (0, a1)] h P := by
  refine CnI.of (lo := [(16, o), (0, a1)]) (by decide) rfl rfl rfl ?_
  intro p e s m args below meth c hc hr
  have hc : VC G p (rmD 10 0) s m args meth c RX6 cX6_fitOf 2 10 := hc
  refine V.aload_n (t := 6) hc dX6_fitOf_0 rfl rfl ?_
  refine V.callVV hc (qX6_weighFits G l _ _ _ hw) mo_X6_weighFits ml_X6_133 (by rfl) rfl rfl (as := []) rfl rfl rfl rfl rfl ⟨Nat.zero_le _, Nat.zero_le _⟩ dX6_fitOf_1 (fun h1 hw => ?_)
  refine V.aload_n (t := 6) hc dX6_fitOf_4 rfl rfl ?_
  refine V.gR hc gR_X6_65 (i' := o) rfl dX6_fitOf_5 ?_
  refine V.iload_n hc dX6_fitOf_8 rfl rfl ?_
  obtain ⟨g2, hw⟩ := hw
  refine V.ald hc ak_33 g2 dX6_fitOf_9 ?_
  exact V.iret hc hr dX6_fitOf_10 hw
theorem qX7_clear (G : GG) (l : Launch) (o : Int) (h : HP) (P : HP → Prop) (hw : wX7_clear o h P) : CnV l G yX7_clear cX7_clear 1 8 [(17, o)] h P := by
  refine CnV.of (lo := [(17, o)]) (by decide) rfl rfl rfl ?_
  intro p e s m args below meth c hc hr
  have hc : VC G p (rmD 8 0) s m args meth c RX7 cX7_clear 1 8 := hc
  refine V.aload_n (t := 7) hc dX7_clear_0 rfl rfl ?_
  refine V.iconst hc dX7_clear_1 ?_
  refine V.pI hc pI_X7_9 rfl dX7_clear_2 (fun h1 e => ?_)
  replace hw := hw h1 e
  clear e
  exact V.vret hc hr dX7_clear_5 hw
theorem tX7_add_24 {G : GG} {p : Program} {l : Launch} {e : Jvm.Env} {s : State} {m : MethodId} {args : Array Value} {below : List Frame} {meth : Method} {c : Code} {P : HP → Prop} (hc : VC G p (rmD 8 0) s m args meth c RX7 cX7_add 6 8) (hr : meth.sig.returnType = none) {o : Int} {a1 : Int} {a2 : Int} {a3 : Int} {K98 : Int → HP → Prop} (hK98 : ∀ (x4 : Int) (h : HP), K98 x4 h → V G p l e (rmD 8 0) s m args below meth c (MQ below (QV G P) args s 0 0 (va_Aof G)) 6 98 [(17, o), (0, a1), (0, a2), (0, a3), (0, x4), (1, 0)] [] h 0) : ∀ (f : Nat) (l4 : Int) (l5 : Int) (h : HP), wX7_add_24 o a1 a2 a3 K98 f l4 l5 h → V G p l e (rmD 8 0) s m args below meth c (MQ below (QV G P) args s 0 0 (va_Aof G)) 6 24 [(17, o), (0, a1), (0, a2), (0, a3), (0, l4), (0, l5)] [] h 0 := by
  intro f
  induction f with
  | zero =>
    intro l4 l5 h hw
    exact hw.elim
  | succ f ih =>
    intro l4 l5 h hw
    refine V.iload hc dX7_add_24 rfl ?_
    obtain ⟨g3, hw⟩ := hw
    refine V.if_lt hc (tgt := 98) dX7_add_26 (by decide) g3 (fun c4 => ?_) (fun c4 => ?_)
    · replace hw := hw.1 c4
      refine V.drop (lo' := [(17, o), (0, a1), (0, a2), (0, a3), (0, l4), (1, 0)]) ⟨Or.inr rfl, Or.inr rfl, Or.inr rfl, Or.inr rfl, Or.inr rfl, Or.inl rfl, trivial⟩ ?_
      exact hK98 _ _ hw
    · replace hw := hw.2 c4
      refine V.aload_n (t := 7) hc dX7_add_29 rfl rfl ?_
      refine V.gR hc gR_X7_19 (i' := o) rfl dX7_add_30 ?_
      refine V.iload hc dX7_add_33 rfl ?_
      obtain ⟨g5, hw⟩ := hw
      refine V.ald hc ak_35 g5 dX7_add_35 ?_
      refine V.iload_n hc dX7_add_36 rfl rfl ?_
      obtain ⟨g6, hw⟩ := hw
      obtain ⟨g7, hw⟩ := hw
      refine V.icmp_le hc (tgt := 98) dX7_add_37 (by decide) g6 g7 (fun c8 => ?_) (fun c8 => ?_)
      · replace hw := hw.1 c8
        refine V.drop (lo' := [(17, o), (0, a1), (0, a2), (0, a3), (0, l4), (1, 0)]) ⟨Or.inr rfl, Or.inr rfl, Or.inr rfl, Or.inr rfl, Or.inr rfl, Or.inl rfl, trivial⟩ ?_
        exact hK98 _ _ hw
      · replace hw := hw.2 c8
        refine V.aload_n (t := 7) hc dX7_add_40 rfl rfl ?_
        refine V.gR hc gR_X7_15 (i' := o) rfl dX7_add_41 ?_
        refine V.iload hc dX7_add_44 rfl ?_
        refine V.iconst hc dX7_add_46 ?_
        refine V.iadd hc dX7_add_47 ?_
        refine V.aload_n (t := 7) hc dX7_add_48 rfl rfl ?_
        refine V.gR hc gR_X7_15 (i' := o) rfl dX7_add_49 ?_
        refine V.iload hc dX7_add_52 rfl ?_
        obtain ⟨g9, hw⟩ := hw
        refine V.ald hc ak_34 g9 dX7_add_54 ?_
        obtain ⟨g11, hw⟩ := hw
        refine V.ast hc ak_34 g11 dX7_add_55 (fun h10 e => ?_)
        replace hw := hw h10 e
        clear e
        refine V.aload_n (t := 7) hc dX7_add_56 rfl rfl ?_
        refine V.gR hc gR_X7_19 (i' := o) rfl dX7_add_57 ?_
        refine V.iload hc dX7_add_60 rfl ?_
        refine V.iconst hc dX7_add_62 ?_
        refine V.iadd hc dX7_add_63 ?_
        refine V.aload_n (t := 7) hc dX7_add_64 rfl rfl ?_
        refine V.gR hc gR_X7_19 (i' := o) rfl dX7_add_65 ?_
        refine V.iload hc dX7_add_68 rfl ?_
        obtain ⟨g12, hw⟩ := hw
        refine V.ald hc ak_35 g12 dX7_add_70 ?_
        obtain ⟨g14, hw⟩ := hw
        refine V.ast hc ak_35 g14 dX7_add_71 (fun h13 e => ?_)
        replace hw := hw h13 e
        clear e
        refine V.aload_n (t := 7) hc dX7_add_72 rfl rfl ?_
        refine V.gR hc gR_X7_22 (i' := o) rfl dX7_add_73 ?_
        refine V.iload hc dX7_add_76 rfl ?_
        refine V.iconst hc dX7_add_78 ?_
        refine V.iadd hc dX7_add_79 ?_
        refine V.aload_n (t := 7) hc dX7_add_80 rfl rfl ?_
        refine V.gR hc gR_X7_22 (i' := o) rfl dX7_add_81 ?_
        refine V.iload hc dX7_add_84 rfl ?_
        obtain ⟨g15, hw⟩ := hw
        refine V.ald hc ak_36 g15 dX7_add_86 ?_
        obtain ⟨g17, hw⟩ := hw
        refine V.ast hc ak_36 g17 dX7_add_87 (fun h16 e => ?_)
        replace hw := hw h16 e
        clear e
        refine V.iload hc dX7_add_88 rfl ?_
        refine V.istore hc dX7_add_90 rfl (lo' := [(17, o), (0, a1), (0, a2), (0, a3), (0, l5), (0, l5)]) rfl ?_
        refine V.iinc hc dX7_add_92 rfl rfl (lo' := [(17, o), (0, a1), (0, a2), (0, a3), (0, l5), (0, l5 + (-1))]) rfl ?_
        refine V.goto hc (tgt := 24) dX7_add_95 (by decide) ?_
        exact ih _ _ _ hw
theorem qX7_add (G : GG) (l : Launch) (o : Int) (a1 : Int) (a2 : Int) (a3 : Int) (h : HP) (P : HP → Prop) (hw : wX7_add o a1 a2 a3 h P) : CnV l G yX7_add cX7_add 6 8 [(17, o), (0, a1), (0, a2), (0, a3)] h P := by
  refine CnV.of (lo := [(17, o), (0, a1), (0, a2), (0, a3), (1, 0), (1, 0)]) (by decide) rfl rfl rfl ?_
  intro p e s m args below meth c hc hr
  have hc : VC G p (rmD 8 0) s m args meth c RX7 cX7_add 6 8 := hc
  refine V.aload_n (t := 7) hc dX7_add_0 rfl rfl ?_
  refine V.gI hc gI_X7_9 rfl dX7_add_1 ?_
  refine V.bipush hc dX7_add_4 (by decide) ?_
  obtain ⟨g1, hw⟩ := hw
  refine V.icmp_lt hc (tgt := 10) dX7_add_6 (by decide) g1 (by omega) (fun c2 => ?_) (fun c2 => ?_)
  · replace hw := hw.1 c2
    refine V.aload_n (t := 7) hc dX7_add_10 rfl rfl ?_
    refine V.gI hc gI_X7_9 rfl dX7_add_11 ?_
    refine V.istore hc dX7_add_14 rfl (lo' := [(17, o), (0, a1), (0, a2), (0, a3), (0, h 7 o 0), (1, 0)]) rfl ?_
    refine V.aload_n (t := 7) hc dX7_add_16 rfl rfl ?_
    refine V.gI hc gI_X7_9 rfl dX7_add_17 ?_
    refine V.iconst hc dX7_add_20 ?_
    refine V.isub hc dX7_add_21 ?_
    refine V.istore hc dX7_add_22 rfl (lo' := [(17, o), (0, a1), (0, a2), (0, a3), (0, h 7 o 0), (0, (h 7 o 0) - 1)]) rfl ?_
    obtain ⟨f18, hw⟩ := hw
    refine tX7_add_24 hc hr ?_ f18 _ _ _ hw
    · intro l19 h20 hw
      refine V.aload_n (t := 7) hc dX7_add_98 rfl rfl ?_
      refine V.gR hc gR_X7_15 (i' := o) rfl dX7_add_99 ?_
      refine V.iload hc dX7_add_102 rfl ?_
      refine V.iload_n hc dX7_add_104 rfl rfl ?_
      obtain ⟨g22, hw⟩ := hw
      refine V.ast hc ak_34 g22 dX7_add_105 (fun h21 e => ?_)
      replace hw := hw h21 e
      clear e
      refine V.aload_n (t := 7) hc dX7_add_106 rfl rfl ?_
      refine V.gR hc gR_X7_19 (i' := o) rfl dX7_add_107 ?_
      refine V.iload hc dX7_add_110 rfl ?_
      refine V.iload_n hc dX7_add_112 rfl rfl ?_
      obtain ⟨g24, hw⟩ := hw
      refine V.ast hc ak_35 g24 dX7_add_113 (fun h23 e => ?_)
      replace hw := hw h23 e
      clear e
      refine V.aload_n (t := 7) hc dX7_add_114 rfl rfl ?_
      refine V.gR hc gR_X7_22 (i' := o) rfl dX7_add_115 ?_
      refine V.iload hc dX7_add_118 rfl ?_
      refine V.iload_n hc dX7_add_120 rfl rfl ?_
      obtain ⟨g26, hw⟩ := hw
      refine V.ast hc ak_36 g26 dX7_add_121 (fun h25 e => ?_)
      replace hw := hw h25 e
      clear e
      refine V.aload_n (t := 7) hc dX7_add_122 rfl rfl ?_
      refine V.dup hc dX7_add_123 (by simp) ?_
      refine V.gI hc gI_X7_9 rfl dX7_add_124 ?_
      refine V.iconst hc dX7_add_127 ?_
      refine V.iadd hc dX7_add_128 ?_
      refine V.pI hc pI_X7_9 rfl dX7_add_129 (fun h27 e => ?_)
      replace hw := hw h27 e
      clear e
      exact V.vret hc hr dX7_add_132 hw
  · replace hw := hw.2 c2
    exact V.vret hc hr dX7_add_9 hw
theorem qX7_copyFrom (G : GG) (l : Launch) (o : Int) (o1 : Int) (h : HP) (P : HP → Prop) (hw : wX7_copyFrom o o1 h P) : CnV l G yX7_copyFrom cX7_copyFrom 2 8 [(17, o), (17, o1)] h P := by
  refine CnV.of (lo := [(17, o), (17, o1)]) (by decide) rfl rfl rfl ?_
  intro p e s m args below meth c hc hr
  have hc : VC G p (rmD 8 0) s m args meth c RX7 cX7_copyFrom 2 8 := hc
  refine V.aload_n (t := 7) hc dX7_copyFrom_0 rfl rfl ?_
  refine V.aload_n (t := 7) hc dX7_copyFrom_1 rfl rfl ?_
  refine V.gI hc gI_X7_9 rfl dX7_copyFrom_2 ?_
  refine V.pI hc pI_X7_9 rfl dX7_copyFrom_5 (fun h1 e => ?_)
  replace hw := hw h1 e
  clear e
  refine V.aload_n (t := 7) hc dX7_copyFrom_8 rfl rfl ?_
  refine V.gR hc gR_X7_15 (i' := o1) rfl dX7_copyFrom_9 ?_
  refine V.iconst hc dX7_copyFrom_12 ?_
  refine V.aload_n (t := 7) hc dX7_copyFrom_13 rfl rfl ?_
  refine V.gR hc gR_X7_15 (i' := o) rfl dX7_copyFrom_14 ?_
  refine V.iconst hc dX7_copyFrom_17 ?_
  refine V.aload_n (t := 7) hc dX7_copyFrom_18 rfl rfl ?_
  refine V.gI hc gI_X7_9 rfl dX7_copyFrom_19 ?_
  obtain ⟨g3, hw⟩ := hw
  refine V.acp hc ml_X7_25 rfl ak_34 ak_34 g3 dX7_copyFrom_22 (fun h2 e => ?_)
  replace hw := hw h2 e
  clear e
  refine V.aload_n (t := 7) hc dX7_copyFrom_25 rfl rfl ?_
  refine V.gR hc gR_X7_19 (i' := o1) rfl dX7_copyFrom_26 ?_
  refine V.iconst hc dX7_copyFrom_29 ?_
  refine V.aload_n (t := 7) hc dX7_copyFrom_30 rfl rfl ?_
  refine V.gR hc gR_X7_19 (i' := o) rfl dX7_copyFrom_31 ?_
  refine V.iconst hc dX7_copyFrom_34 ?_
  refine V.aload_n (t := 7) hc dX7_copyFrom_35 rfl rfl ?_
  refine V.gI hc gI_X7_9 rfl dX7_copyFrom_36 ?_
  obtain ⟨g5, hw⟩ := hw
  refine V.acp hc ml_X7_25 rfl ak_35 ak_35 g5 dX7_copyFrom_39 (fun h4 e => ?_)
  replace hw := hw h4 e
  clear e
  refine V.aload_n (t := 7) hc dX7_copyFrom_42 rfl rfl ?_
  refine V.gR hc gR_X7_22 (i' := o1) rfl dX7_copyFrom_43 ?_
  refine V.iconst hc dX7_copyFrom_46 ?_
  refine V.aload_n (t := 7) hc dX7_copyFrom_47 rfl rfl ?_
  refine V.gR hc gR_X7_22 (i' := o) rfl dX7_copyFrom_48 ?_
  refine V.iconst hc dX7_copyFrom_51 ?_
  refine V.aload_n (t := 7) hc dX7_copyFrom_52 rfl rfl ?_
  refine V.gI hc gI_X7_9 rfl dX7_copyFrom_53 ?_
  obtain ⟨g7, hw⟩ := hw
  refine V.acp hc ml_X7_25 rfl ak_36 ak_36 g7 dX7_copyFrom_56 (fun h6 e => ?_)
  replace hw := hw h6 e
  clear e
  exact V.vret hc hr dX7_copyFrom_59 hw
theorem qX8_clear (G : GG) (l : Launch) (o : Int) (h : HP) (P : HP → Prop) (hw : wX8_clear o h P) : CnV l G yX8_clear cX8_clear 1 10 [(18, o)] h P := by
  refine CnV.of (lo := [(18, o)]) (by decide) rfl rfl rfl ?_
  intro p e s m args below meth c hc hr
  have hc : VC G p (rmD 10 0) s m args meth c RX8 cX8_clear 1 10 := hc
  refine V.aload_n (t := 8) hc dX8_clear_0 rfl rfl ?_
  refine V.iconst hc dX8_clear_1 ?_
  refine V.pI hc pI_X8_9 rfl dX8_clear_2 (fun h1 e => ?_)
  replace hw := hw h1 e
  clear e
  refine V.aload_n (t := 8) hc dX8_clear_5 rfl rfl ?_
  refine V.iconst hc dX8_clear_6 ?_
  refine V.pI hc pI_X8_15 rfl dX8_clear_7 (fun h2 e => ?_)
  replace hw := hw h2 e
  clear e
  refine V.aload_n (t := 8) hc dX8_clear_10 rfl rfl ?_
  refine V.gR hc gR_X8_22 (i' := o) rfl dX8_clear_11 ?_
  refine V.iconst hc dX8_clear_14 ?_
  refine V.callSV hc (qJ7_fill_53178 G l _ _ _ _ _ hw) mo_J7_fill_53178 ml_X8_47 (as := [(48, o), (0, 0)]) rfl rfl rfl rfl rfl ⟨Nat.zero_le _, Nat.zero_le _⟩ dX8_clear_15 (fun h3 hw => ?_)
  refine V.aload_n (t := 8) hc dX8_clear_18 rfl rfl ?_
  refine V.gR hc gR_X8_43 (i' := o) rfl dX8_clear_19 ?_
  refine V.callVV hc (qX1_clear G l _ _ _ hw) mo_X1_clear ml_X8_53 (by rfl) rfl rfl (as := []) rfl rfl rfl rfl rfl ⟨Nat.zero_le _, Nat.zero_le _⟩ dX8_clear_22 (fun h4 hw => ?_)
  exact V.vret hc hr dX8_clear_25 hw
theorem qX8_copyFrom (G : GG) (l : Launch) (o : Int) (o1 : Int) (h : HP) (P : HP → Prop) (hw : wX8_copyFrom o o1 h P) : CnV l G yX8_copyFrom cX8_copyFrom 2 9 [(18, o), (18, o1)] h P := by
  refine CnV.of (lo := [(18, o), (18, o1)]) (by decide) rfl rfl rfl ?_
  intro p e s m args below meth c hc hr
  have hc : VC G p (rmD 9 0) s m args meth c RX8 cX8_copyFrom 2 9 := hc
  refine V.aload_n (t := 8) hc dX8_copyFrom_0 rfl rfl ?_
  refine V.aload_n (t := 8) hc dX8_copyFrom_1 rfl rfl ?_
  refine V.gI hc gI_X8_9 rfl dX8_copyFrom_2 ?_
  refine V.pI hc pI_X8_9 rfl dX8_copyFrom_5 (fun h1 e => ?_)
  replace hw := hw h1 e
  clear e
  refine V.aload_n (t := 8) hc dX8_copyFrom_8 rfl rfl ?_
  refine V.aload_n (t := 8) hc dX8_copyFrom_9 rfl rfl ?_
  refine V.gI hc gI_X8_15 rfl dX8_copyFrom_10 ?_
  refine V.pI hc pI_X8_15 rfl dX8_copyFrom_13 (fun h2 e => ?_)
  replace hw := hw h2 e
  clear e
  refine V.aload_n (t := 8) hc dX8_copyFrom_16 rfl rfl ?_
  refine V.gR hc gR_X8_18 (i' := o1) rfl dX8_copyFrom_17 ?_
  refine V.iconst hc dX8_copyFrom_20 ?_
  refine V.aload_n (t := 8) hc dX8_copyFrom_21 rfl rfl ?_
  refine V.gR hc gR_X8_18 (i' := o) rfl dX8_copyFrom_22 ?_
  refine V.iconst hc dX8_copyFrom_25 ?_
  refine V.aload_n (t := 8) hc dX8_copyFrom_26 rfl rfl ?_
  refine V.gR hc gR_X8_18 (i' := o) rfl dX8_copyFrom_27 ?_
  refine V.aln hc ak_37 dX8_copyFrom_30 ?_
  obtain ⟨g4, hw⟩ := hw
  refine V.acp hc ml_X8_56 rfl ak_37 ak_37 g4 dX8_copyFrom_31 (fun h3 e => ?_)
  replace hw := hw h3 e
  clear e
  refine V.aload_n (t := 8) hc dX8_copyFrom_34 rfl rfl ?_
  refine V.gR hc gR_X8_22 (i' := o1) rfl dX8_copyFrom_35 ?_
  refine V.iconst hc dX8_copyFrom_38 ?_
  refine V.aload_n (t := 8) hc dX8_copyFrom_39 rfl rfl ?_
  refine V.gR hc gR_X8_22 (i' := o) rfl dX8_copyFrom_40 ?_
  refine V.iconst hc dX8_copyFrom_43 ?_
  refine V.aload_n (t := 8) hc dX8_copyFrom_44 rfl rfl ?_
  refine V.gR hc gR_X8_22 (i' := o) rfl dX8_copyFrom_45 ?_
  refine V.aln hc ak_38 dX8_copyFrom_48 ?_
  obtain ⟨g6, hw⟩ := hw
  refine V.acp hc ml_X8_56 rfl ak_38 ak_38 g6 dX8_copyFrom_49 (fun h5 e => ?_)
  replace hw := hw h5 e
  clear e
  refine V.aload_n (t := 8) hc dX8_copyFrom_52 rfl rfl ?_
  refine V.gR hc gR_X8_25 (i' := o1) rfl dX8_copyFrom_53 ?_
  refine V.iconst hc dX8_copyFrom_56 ?_
  refine V.aload_n (t := 8) hc dX8_copyFrom_57 rfl rfl ?_
  refine V.gR hc gR_X8_25 (i' := o) rfl dX8_copyFrom_58 ?_
  refine V.iconst hc dX8_copyFrom_61 ?_
  refine V.aload_n (t := 8) hc dX8_copyFrom_62 rfl rfl ?_
  refine V.gR hc gR_X8_25 (i' := o) rfl dX8_copyFrom_63 ?_
  refine V.aln hc ak_39 dX8_copyFrom_66 ?_
  obtain ⟨g8, hw⟩ := hw
  refine V.acp hc ml_X8_56 rfl ak_39 ak_39 g8 dX8_copyFrom_67 (fun h7 e => ?_)
  replace hw := hw h7 e
  clear e
  refine V.aload_n (t := 8) hc dX8_copyFrom_70 rfl rfl ?_
  refine V.gR hc gR_X8_28 (i' := o1) rfl dX8_copyFrom_71 ?_
  refine V.iconst hc dX8_copyFrom_74 ?_
  refine V.aload_n (t := 8) hc dX8_copyFrom_75 rfl rfl ?_
  refine V.gR hc gR_X8_28 (i' := o) rfl dX8_copyFrom_76 ?_
  refine V.iconst hc dX8_copyFrom_79 ?_
  refine V.aload_n (t := 8) hc dX8_copyFrom_80 rfl rfl ?_
  refine V.gR hc gR_X8_28 (i' := o) rfl dX8_copyFrom_81 ?_
  refine V.aln hc ak_40 dX8_copyFrom_84 ?_
  obtain ⟨g10, hw⟩ := hw
  refine V.acp hc ml_X8_56 rfl ak_40 ak_40 g10 dX8_copyFrom_85 (fun h9 e => ?_)
  replace hw := hw h9 e
  clear e
  refine V.aload_n (t := 8) hc dX8_copyFrom_88 rfl rfl ?_
  refine V.gR hc gR_X8_31 (i' := o1) rfl dX8_copyFrom_89 ?_
  refine V.iconst hc dX8_copyFrom_92 ?_
  refine V.aload_n (t := 8) hc dX8_copyFrom_93 rfl rfl ?_
  refine V.gR hc gR_X8_31 (i' := o) rfl dX8_copyFrom_94 ?_
  refine V.iconst hc dX8_copyFrom_97 ?_
  refine V.aload_n (t := 8) hc dX8_copyFrom_98 rfl rfl ?_
  refine V.gR hc gR_X8_31 (i' := o) rfl dX8_copyFrom_99 ?_
  refine V.aln hc ak_41 dX8_copyFrom_102 ?_
  obtain ⟨g12, hw⟩ := hw
  refine V.acp hc ml_X8_56 rfl ak_41 ak_41 g12 dX8_copyFrom_103 (fun h11 e => ?_)
  replace hw := hw h11 e
  clear e
  refine V.aload_n (t := 8) hc dX8_copyFrom_106 rfl rfl ?_
  refine V.gR hc gR_X8_34 (i' := o1) rfl dX8_copyFrom_107 ?_
  refine V.iconst hc dX8_copyFrom_110 ?_
  refine V.aload_n (t := 8) hc dX8_copyFrom_111 rfl rfl ?_
  refine V.gR hc gR_X8_34 (i' := o) rfl dX8_copyFrom_112 ?_
  refine V.iconst hc dX8_copyFrom_115 ?_
  refine V.aload_n (t := 8) hc dX8_copyFrom_116 rfl rfl ?_
  refine V.gR hc gR_X8_34 (i' := o) rfl dX8_copyFrom_117 ?_
  refine V.aln hc ak_42 dX8_copyFrom_120 ?_
  obtain ⟨g14, hw⟩ := hw
  refine V.acp hc ml_X8_56 rfl ak_42 ak_42 g14 dX8_copyFrom_121 (fun h13 e => ?_)
  replace hw := hw h13 e
  clear e
  refine V.aload_n (t := 8) hc dX8_copyFrom_124 rfl rfl ?_
  refine V.gR hc gR_X8_37 (i' := o1) rfl dX8_copyFrom_125 ?_
  refine V.iconst hc dX8_copyFrom_128 ?_
  refine V.aload_n (t := 8) hc dX8_copyFrom_129 rfl rfl ?_
  refine V.gR hc gR_X8_37 (i' := o) rfl dX8_copyFrom_130 ?_
  refine V.iconst hc dX8_copyFrom_133 ?_
  refine V.aload_n (t := 8) hc dX8_copyFrom_134 rfl rfl ?_
  refine V.gR hc gR_X8_37 (i' := o) rfl dX8_copyFrom_135 ?_
  refine V.aln hc ak_43 dX8_copyFrom_138 ?_
  obtain ⟨g16, hw⟩ := hw
  refine V.acp hc ml_X8_56 rfl ak_43 ak_43 g16 dX8_copyFrom_139 (fun h15 e => ?_)
  replace hw := hw h15 e
  clear e
  refine V.aload_n (t := 8) hc dX8_copyFrom_142 rfl rfl ?_
  refine V.gR hc gR_X8_43 (i' := o) rfl dX8_copyFrom_143 ?_
  refine V.aload_n (t := 8) hc dX8_copyFrom_146 rfl rfl ?_
  refine V.gR hc gR_X8_43 (i' := o1) rfl dX8_copyFrom_147 ?_
  refine V.bipush hc dX8_copyFrom_150 (by decide) ?_
  refine V.callVV hc (qX1_copyFrom G l _ _ _ _ _ hw) mo_X1_copyFrom ml_X8_62 (by rfl) rfl rfl (as := [(11, o1), (0, 12)]) rfl rfl rfl rfl rfl ⟨Nat.zero_le _, Nat.zero_le _⟩ dX8_copyFrom_152 (fun h17 hw => ?_)
  exact V.vret hc hr dX8_copyFrom_155 hw
theorem qX8_hasClass (G : GG) (l : Launch) (o : Int) (a1 : Int) (h : HP) (P : Int → HP → Prop) (hw : wX8_hasClass o a1 h P) : CnI l G yX8_hasClass cX8_hasClass 2 (some .boolean) 8 [(18, o), (0, a1)] h P := by
  refine CnI.of (lo := [(18, o), (0, a1)]) (by decide) rfl rfl rfl ?_
  intro p e s m args below meth c hc hr
  have hc : VC G p (rmD 8 0) s m args meth c RX8 cX8_hasClass 2 8 := hc
  refine V.iload_n hc dX8_hasClass_0 rfl rfl ?_
  obtain ⟨q5, hw⟩ := hw
  have kJ7 : ∀ t4 : Int, ((a1 < 0 → t4 = 0) ∧ (¬ a1 < 0 → ((h 8 o 0 ≤ a1 → t4 = 0) ∧ (¬ h 8 o 0 ≤ a1 → t4 = 1)))) → V G p l e (rmD 8 0) s m args below meth c (MQ below (QI G P) args s 0 0 (va_Aof G)) 2 17 [(1, 0), (1, 0)] [(0, t4)] h 0 := by
    intro t4 he
    replace hw := hw t4 he
    clear he
    obtain ⟨g6, hw⟩ := hw
    exact V.zret hc hr dX8_hasClass_17 g6 hw
  obtain ⟨g1, q8⟩ := q5
  refine V.if_lt hc (tgt := 16) dX8_hasClass_1 (by decide) g1 (fun c9 => ?_) (fun c9 => ?_)
  · refine V.iconst hc dX8_hasClass_16 ?_
    refine V.drop (lo' := [(1, 0), (1, 0)]) ⟨Or.inl rfl, Or.inl rfl, trivial⟩ ?_
    exact kJ7 _ ⟨fun _ => rfl, (fun q => absurd c9 q)⟩
  · have q10 := q8 c9
    obtain ⟨g2, g3⟩ := q10
    refine V.iload_n hc dX8_hasClass_4 rfl rfl ?_
    refine V.aload_n (t := 8) hc dX8_hasClass_5 rfl rfl ?_
    refine V.gI hc gI_X8_9 rfl dX8_hasClass_6 ?_
    refine V.icmp_ge hc (tgt := 16) dX8_hasClass_9 (by decide) g2 g3 (fun c11 => ?_) (fun c11 => ?_)
    · refine V.iconst hc dX8_hasClass_16 ?_
      refine V.drop (lo' := [(1, 0), (1, 0)]) ⟨Or.inl rfl, Or.inl rfl, trivial⟩ ?_
      exact kJ7 _ ⟨(fun q => absurd q c9), fun _ => ⟨fun _ => rfl, (fun q => absurd c11 q)⟩⟩
    · refine V.iconst hc dX8_hasClass_12 ?_
      refine V.goto hc (tgt := 17) dX8_hasClass_13 (by decide) ?_
      refine V.drop (lo' := [(1, 0), (1, 0)]) ⟨Or.inl rfl, Or.inl rfl, trivial⟩ ?_
      exact kJ7 _ ⟨(fun q => absurd q c9), fun _ => ⟨(fun q => absurd q c11), fun _ => rfl⟩⟩
theorem qX8_hasLeaf (G : GG) (l : Launch) (o : Int) (a1 : Int) (h : HP) (P : Int → HP → Prop) (hw : wX8_hasLeaf o a1 h P) : CnI l G yX8_hasLeaf cX8_hasLeaf 2 (some .boolean) 9 [(18, o), (0, a1)] h P := by
  refine CnI.of (lo := [(18, o), (0, a1)]) (by decide) rfl rfl rfl ?_
  intro p e s m args below meth c hc hr
  have hc : VC G p (rmD 9 0) s m args meth c RX8 cX8_hasLeaf 2 9 := hc
  refine V.aload_n (t := 8) hc dX8_hasLeaf_0 rfl rfl ?_
  refine V.iload_n hc dX8_hasLeaf_1 rfl rfl ?_
  refine V.callVI hc (qX8_hasClass G l _ _ _ _ hw) mo_X8_hasClass ml_X8_66 (by rfl) rfl rfl (as := [(0, a1)]) rfl rfl rfl rfl rfl ⟨Nat.zero_le _, Nat.zero_le _⟩ dX8_hasLeaf_2 (fun x2 h1 hw => ?_)
  obtain ⟨g3, hw⟩ := hw
  refine V.if_eq hc (tgt := 20) dX8_hasLeaf_5 (by decide) g3 (fun c4 => ?_) (fun c4 => ?_)
  · replace hw := hw.1 c4
    refine V.iconst hc dX8_hasLeaf_20 ?_
    exact V.zret hc hr dX8_hasLeaf_21 (by omega) hw
  · replace hw := hw.2 c4
    refine V.aload_n (t := 8) hc dX8_hasLeaf_8 rfl rfl ?_
    refine V.iload_n hc dX8_hasLeaf_9 rfl rfl ?_
    refine V.callVI hc (qX8_isLeaf G l _ _ _ _ hw) mo_X8_isLeaf ml_X8_70 (by rfl) rfl rfl (as := [(0, a1)]) rfl rfl rfl rfl rfl ⟨Nat.zero_le _, Nat.zero_le _⟩ dX8_hasLeaf_10 (fun x6 h5 hw => ?_)
    obtain ⟨g7, hw⟩ := hw
    refine V.if_eq hc (tgt := 20) dX8_hasLeaf_13 (by decide) g7 (fun c8 => ?_) (fun c8 => ?_)
    · replace hw := hw.1 c8
      refine V.iconst hc dX8_hasLeaf_20 ?_
      exact V.zret hc hr dX8_hasLeaf_21 (by omega) hw
    · replace hw := hw.2 c8
      refine V.iconst hc dX8_hasLeaf_16 ?_
      refine V.goto hc (tgt := 21) dX8_hasLeaf_17 (by decide) ?_
      exact V.zret hc hr dX8_hasLeaf_21 (by omega) hw
theorem qX8_hasFlow (G : GG) (l : Launch) (o : Int) (a1 : Int) (h : HP) (P : Int → HP → Prop) (hw : wX8_hasFlow o a1 h P) : CnI l G yX8_hasFlow cX8_hasFlow 2 (some .boolean) 8 [(18, o), (0, a1)] h P := by
  refine CnI.of (lo := [(18, o), (0, a1)]) (by decide) rfl rfl rfl ?_
  intro p e s m args below meth c hc hr
  have hc : VC G p (rmD 8 0) s m args meth c RX8 cX8_hasFlow 2 8 := hc
  refine V.iload_n hc dX8_hasFlow_0 rfl rfl ?_
  obtain ⟨q5, hw⟩ := hw
  have kJ7 : ∀ t4 : Int, ((a1 < 0 → t4 = 0) ∧ (¬ a1 < 0 → ((h 8 o 1 ≤ a1 → t4 = 0) ∧ (¬ h 8 o 1 ≤ a1 → t4 = 1)))) → V G p l e (rmD 8 0) s m args below meth c (MQ below (QI G P) args s 0 0 (va_Aof G)) 2 17 [(1, 0), (1, 0)] [(0, t4)] h 0 := by
    intro t4 he
    replace hw := hw t4 he
    clear he
    obtain ⟨g6, hw⟩ := hw
    exact V.zret hc hr dX8_hasFlow_17 g6 hw
  obtain ⟨g1, q8⟩ := q5
  refine V.if_lt hc (tgt := 16) dX8_hasFlow_1 (by decide) g1 (fun c9 => ?_) (fun c9 => ?_)
  · refine V.iconst hc dX8_hasFlow_16 ?_
    refine V.drop (lo' := [(1, 0), (1, 0)]) ⟨Or.inl rfl, Or.inl rfl, trivial⟩ ?_
    exact kJ7 _ ⟨fun _ => rfl, (fun q => absurd c9 q)⟩
  · have q10 := q8 c9
    obtain ⟨g2, g3⟩ := q10
    refine V.iload_n hc dX8_hasFlow_4 rfl rfl ?_
    refine V.aload_n (t := 8) hc dX8_hasFlow_5 rfl rfl ?_
    refine V.gI hc gI_X8_15 rfl dX8_hasFlow_6 ?_
    refine V.icmp_ge hc (tgt := 16) dX8_hasFlow_9 (by decide) g2 g3 (fun c11 => ?_) (fun c11 => ?_)
    · refine V.iconst hc dX8_hasFlow_16 ?_
      refine V.drop (lo' := [(1, 0), (1, 0)]) ⟨Or.inl rfl, Or.inl rfl, trivial⟩ ?_
      exact kJ7 _ ⟨(fun q => absurd q c9), fun _ => ⟨fun _ => rfl, (fun q => absurd c11 q)⟩⟩
    · refine V.iconst hc dX8_hasFlow_12 ?_
      refine V.goto hc (tgt := 17) dX8_hasFlow_13 (by decide) ?_
      refine V.drop (lo' := [(1, 0), (1, 0)]) ⟨Or.inl rfl, Or.inl rfl, trivial⟩ ?_
      exact kJ7 _ ⟨(fun q => absurd q c9), fun _ => ⟨(fun q => absurd q c11), fun _ => rfl⟩⟩
theorem tX8_mayHoldClass_27 {G : GG} {p : Program} {l : Launch} {e : Jvm.Env} {s : State} {m : MethodId} {args : Array Value} {below : List Frame} {meth : Method} {c : Code} {P : Int → HP → Prop} (hc : VC G p (rmD 9 0) s m args meth c RX8 cX8_mayHoldClass 3 9) (hr : meth.sig.returnType = some .boolean) {o : Int} {a1 : Int} {h : HP} {K53 : Prop} {K45 : Prop} (hK53 : K53 → V G p l e (rmD 9 0) s m args below meth c (MQ below (QI G P) args s 0 0 (va_Aof G)) 3 53 [(1, 0), (1, 0), (1, 0)] [] h 0) (hK45 : K45 → V G p l e (rmD 9 0) s m args below meth c (MQ below (QI G P) args s 0 0 (va_Aof G)) 3 45 [(1, 0), (1, 0), (1, 0)] [] h 0) : ∀ (f : Nat) (l2 : Int), wX8_mayHoldClass_27 o a1 h K53 K45 f l2 → V G p l e (rmD 9 0) s m args below meth c (MQ below (QI G P) args s 0 0 (va_Aof G)) 3 27 [(18, o), (0, a1), (0, l2)] [] h 0 := by
  intro f
  induction f with
  | zero =>
    intro l2 hw
    exact hw.elim
  | succ f ih =>
    intro l2 hw
    refine V.iload_n hc dX8_mayHoldClass_27 rfl rfl ?_
    refine V.aload_n (t := 8) hc dX8_mayHoldClass_28 rfl rfl ?_
    refine V.gI hc gI_X8_15 rfl dX8_mayHoldClass_29 ?_
    obtain ⟨g9, hw⟩ := hw
    obtain ⟨g10, hw⟩ := hw
    refine V.icmp_ge hc (tgt := 53) dX8_mayHoldClass_32 (by decide) g9 g10 (fun c11 => ?_) (fun c11 => ?_)
    · replace hw := hw.1 c11
      refine V.drop (lo' := [(1, 0), (1, 0), (1, 0)]) ⟨Or.inl rfl, Or.inl rfl, Or.inl rfl, trivial⟩ ?_
      exact hK53 hw
    · replace hw := hw.2 c11
      refine V.aload_n (t := 8) hc dX8_mayHoldClass_35 rfl rfl ?_
      refine V.gR hc gR_X8_28 (i' := o) rfl dX8_mayHoldClass_36 ?_
      refine V.iload_n hc dX8_mayHoldClass_39 rfl rfl ?_
      obtain ⟨g12, hw⟩ := hw
      refine V.ald hc ak_40 g12 dX8_mayHoldClass_40 ?_
      refine V.iload_n hc dX8_mayHoldClass_41 rfl rfl ?_
      obtain ⟨g13, hw⟩ := hw
      obtain ⟨g14, hw⟩ := hw
      refine V.icmp_ne hc (tgt := 47) dX8_mayHoldClass_42 (by decide) g13 g14 (fun c15 => ?_) (fun c15 => ?_)
      · replace hw := hw.1 c15
        refine V.iinc hc dX8_mayHoldClass_47 rfl rfl (lo' := [(18, o), (0, a1), (0, l2 + 1)]) rfl ?_
        refine V.goto hc (tgt := 27) dX8_mayHoldClass_50 (by decide) ?_
        exact ih _ hw
      · replace hw := hw.2 c15
        refine V.drop (lo' := [(1, 0), (1, 0), (1, 0)]) ⟨Or.inl rfl, Or.inl rfl, Or.inl rfl, trivial⟩ ?_
        exact hK45 hw
theorem qX8_mayHoldClass (G : GG) (l : Launch) (o : Int) (a1 : Int) (h : HP) (P : Int → HP → Prop) (hw : wX8_mayHoldClass o a1 h P) : CnI l G yX8_mayHoldClass cX8_mayHoldClass 3 (some .boolean) 9 [(18, o), (0, a1)] h P := by
  refine CnI.of (lo := [(18, o), (0, a1), (1, 0)]) (by decide) rfl rfl rfl ?_
  intro p e s m args below meth c hc hr
  have hc : VC G p (rmD 9 0) s m args meth c RX8 cX8_mayHoldClass 3 9 := hc
  refine V.aload_n (t := 8) hc dX8_mayHoldClass_0 rfl rfl ?_
  refine V.iload_n hc dX8_mayHoldClass_1 rfl rfl ?_
  refine V.callVI hc (qX8_hasClass G l _ _ _ _ hw) mo_X8_hasClass ml_X8_66 (by rfl) rfl rfl (as := [(0, a1)]) rfl rfl rfl rfl rfl ⟨Nat.zero_le _, Nat.zero_le _⟩ dX8_mayHoldClass_2 (fun x2 h1 hw => ?_)
  obtain ⟨g3, hw⟩ := hw
  refine V.if_eq hc (tgt := 23) dX8_mayHoldClass_5 (by decide) g3 (fun c4 => ?_) (fun c4 => ?_)
  · replace hw := hw.1 c4
    refine V.iconst hc dX8_mayHoldClass_23 ?_
    exact V.zret hc hr dX8_mayHoldClass_24 (by omega) hw
  · replace hw := hw.2 c4
    refine V.aload_n (t := 8) hc dX8_mayHoldClass_8 rfl rfl ?_
    refine V.gR hc gR_X8_43 (i' := o) rfl dX8_mayHoldClass_9 ?_
    refine V.iload_n hc dX8_mayHoldClass_12 rfl rfl ?_
    refine V.iconst hc dX8_mayHoldClass_13 ?_
    refine V.imul hc dX8_mayHoldClass_14 ?_
    refine V.iconst hc dX8_mayHoldClass_15 ?_
    refine V.iadd hc dX8_mayHoldClass_16 ?_
    refine V.callVI hc (qX1_has G l _ _ _ _ hw) mo_X1_has ml_X8_73 (by rfl) rfl rfl (as := [(0, (a1 * 3) + 0)]) rfl rfl rfl rfl rfl ⟨Nat.zero_le _, Nat.zero_le _⟩ dX8_mayHoldClass_17 (fun x6 h5 hw => ?_)
    obtain ⟨g7, hw⟩ := hw
    refine V.if_eq hc (tgt := 25) dX8_mayHoldClass_20 (by decide) g7 (fun c8 => ?_) (fun c8 => ?_)
    · replace hw := hw.1 c8
      refine V.iconst hc dX8_mayHoldClass_25 ?_
      refine V.istore_n hc dX8_mayHoldClass_26 rfl rfl (lo' := [(18, o), (0, a1), (0, 0)]) rfl ?_
      obtain ⟨f16, hw⟩ := hw
      refine tX8_mayHoldClass_27 hc hr ?_ ?_ f16 _ hw
      · intro hw
        refine V.iconst hc dX8_mayHoldClass_53 ?_
        exact V.zret hc hr dX8_mayHoldClass_54 (by omega) hw
      · intro hw
        refine V.iconst hc dX8_mayHoldClass_45 ?_
        exact V.zret hc hr dX8_mayHoldClass_46 (by omega) hw
    · replace hw := hw.2 c8
      refine V.iconst hc dX8_mayHoldClass_23 ?_
      exact V.zret hc hr dX8_mayHoldClass_24 (by omega) hw
theorem qX8_addClass (G : GG) (l : Launch) (o : Int) (a1 : Int) (h : HP) (P : HP → Prop) (hw : wX8_addClass o a1 h P) : CnV l G yX8_addClass cX8_addClass 2 9 [(18, o), (0, a1)] h P := by
  refine CnV.of (lo := [(18, o), (0, a1)]) (by decide) rfl rfl rfl ?_
  intro p e s m args below meth c hc hr
  have hc : VC G p (rmD 9 0) s m args meth c RX8 cX8_addClass 2 9 := hc
  refine V.aload_n (t := 8) hc dX8_addClass_0 rfl rfl ?_
  refine V.gR hc gR_X8_18 (i' := o) rfl dX8_addClass_1 ?_
  refine V.aload_n (t := 8) hc dX8_addClass_4 rfl rfl ?_
  refine V.gI hc gI_X8_9 rfl dX8_addClass_5 ?_
  refine V.iload_n hc dX8_addClass_8 rfl rfl ?_
  obtain ⟨g2, hw⟩ := hw
  refine V.ast hc ak_37 g2 dX8_addClass_9 (fun h1 e => ?_)
  replace hw := hw h1 e
  clear e
  refine V.aload_n (t := 8) hc dX8_addClass_10 rfl rfl ?_
  refine V.gR hc gR_X8_25 (i' := o) rfl dX8_addClass_11 ?_
  refine V.iload_n hc dX8_addClass_14 rfl rfl ?_
  refine V.bipush hc dX8_addClass_15 (by decide) ?_
  refine V.imul hc dX8_addClass_17 ?_
  refine V.aload_n (t := 8) hc dX8_addClass_18 rfl rfl ?_
  refine V.gR hc gR_X8_22 (i' := o) rfl dX8_addClass_19 ?_
  refine V.iload_n hc dX8_addClass_22 rfl rfl ?_
  obtain ⟨g3, hw⟩ := hw
  refine V.ald hc ak_38 g3 dX8_addClass_23 ?_
  refine V.iadd hc dX8_addClass_24 ?_
  refine V.aload_n (t := 8) hc dX8_addClass_25 rfl rfl ?_
  refine V.gI hc gI_X8_9 rfl dX8_addClass_26 ?_
  obtain ⟨g5, hw⟩ := hw
  refine V.ast hc ak_39 g5 dX8_addClass_29 (fun h4 e => ?_)
  replace hw := hw h4 e
  clear e
  refine V.aload_n (t := 8) hc dX8_addClass_30 rfl rfl ?_
  refine V.gR hc gR_X8_22 (i' := o) rfl dX8_addClass_31 ?_
  refine V.iload_n hc dX8_addClass_34 rfl rfl ?_
  refine V.dup2 hc dX8_addClass_35 (by simp) (by simp) ?_
  obtain ⟨g6, hw⟩ := hw
  refine V.ald hc ak_38 g6 dX8_addClass_36 ?_
  refine V.iconst hc dX8_addClass_37 ?_
  refine V.iadd hc dX8_addClass_38 ?_
  obtain ⟨g8, hw⟩ := hw
  refine V.ast hc ak_38 g8 dX8_addClass_39 (fun h7 e => ?_)
  replace hw := hw h7 e
  clear e
  refine V.aload_n (t := 8) hc dX8_addClass_40 rfl rfl ?_
  refine V.gR hc gR_X8_43 (i' := o) rfl dX8_addClass_41 ?_
  refine V.aload_n (t := 8) hc dX8_addClass_44 rfl rfl ?_
  refine V.gI hc gI_X8_9 rfl dX8_addClass_45 ?_
  refine V.iconst hc dX8_addClass_48 ?_
  refine V.imul hc dX8_addClass_49 ?_
  refine V.iconst hc dX8_addClass_50 ?_
  refine V.iadd hc dX8_addClass_51 ?_
  refine V.bipush hc dX8_addClass_52 (by decide) ?_
  refine V.iconst hc dX8_addClass_54 ?_
  refine V.bipush hc dX8_addClass_55 (by decide) ?_
  refine V.callVV hc (qX1_put G l _ _ _ _ _ _ _ hw) mo_X1_put ml_X8_76 (by rfl) rfl rfl (as := [(0, ((h7 8 o 0) * 3) + 1), (0, 10), (0, 0), (0, 10)]) rfl rfl rfl rfl rfl ⟨Nat.zero_le _, Nat.zero_le _⟩ dX8_addClass_57 (fun h9 hw => ?_)
  refine V.aload_n (t := 8) hc dX8_addClass_60 rfl rfl ?_
  refine V.dup hc dX8_addClass_61 (by simp) ?_
  refine V.gI hc gI_X8_9 rfl dX8_addClass_62 ?_
  refine V.iconst hc dX8_addClass_65 ?_
  refine V.iadd hc dX8_addClass_66 ?_
  refine V.pI hc pI_X8_9 rfl dX8_addClass_67 (fun h10 e => ?_)
  replace hw := hw h10 e
  clear e
  exact V.vret hc hr dX8_addClass_70 hw
theorem qX8_addFlow (G : GG) (l : Launch) (o : Int) (a1 : Int) (a2 : Int) (a3 : Int) (a4 : Int) (h : HP) (P : HP → Prop) (hw : wX8_addFlow o a1 a2 a3 a4 h P) : CnV l G yX8_addFlow cX8_addFlow 5 8 [(18, o), (0, a1), (0, a2), (0, a3), (0, a4)] h P := by
  refine CnV.of (lo := [(18, o), (0, a1), (0, a2), (0, a3), (0, a4)]) (by decide) rfl rfl rfl ?_
  intro p e s m args below meth c hc hr
  have hc : VC G p (rmD 8 0) s m args meth c RX8 cX8_addFlow 5 8 := hc
  refine V.aload_n (t := 8) hc dX8_addFlow_0 rfl rfl ?_
  refine V.gR hc gR_X8_28 (i' := o) rfl dX8_addFlow_1 ?_
  refine V.aload_n (t := 8) hc dX8_addFlow_4 rfl rfl ?_
  refine V.gI hc gI_X8_15 rfl dX8_addFlow_5 ?_
  refine V.iload_n hc dX8_addFlow_8 rfl rfl ?_
  obtain ⟨g2, hw⟩ := hw
  refine V.ast hc ak_40 g2 dX8_addFlow_9 (fun h1 e => ?_)
  replace hw := hw h1 e
  clear e
  refine V.aload_n (t := 8) hc dX8_addFlow_10 rfl rfl ?_
  refine V.gR hc gR_X8_31 (i' := o) rfl dX8_addFlow_11 ?_
  refine V.aload_n (t := 8) hc dX8_addFlow_14 rfl rfl ?_
  refine V.gI hc gI_X8_15 rfl dX8_addFlow_15 ?_
  refine V.iload_n hc dX8_addFlow_18 rfl rfl ?_
  obtain ⟨g4, hw⟩ := hw
  refine V.ast hc ak_41 g4 dX8_addFlow_19 (fun h3 e => ?_)
  replace hw := hw h3 e
  clear e
  refine V.aload_n (t := 8) hc dX8_addFlow_20 rfl rfl ?_
  refine V.gR hc gR_X8_34 (i' := o) rfl dX8_addFlow_21 ?_
  refine V.aload_n (t := 8) hc dX8_addFlow_24 rfl rfl ?_
  refine V.gI hc gI_X8_15 rfl dX8_addFlow_25 ?_
  refine V.iload_n hc dX8_addFlow_28 rfl rfl ?_
  obtain ⟨g6, hw⟩ := hw
  refine V.ast hc ak_42 g6 dX8_addFlow_29 (fun h5 e => ?_)
  replace hw := hw h5 e
  clear e
  refine V.aload_n (t := 8) hc dX8_addFlow_30 rfl rfl ?_
  refine V.gR hc gR_X8_37 (i' := o) rfl dX8_addFlow_31 ?_
  refine V.aload_n (t := 8) hc dX8_addFlow_34 rfl rfl ?_
  refine V.gI hc gI_X8_15 rfl dX8_addFlow_35 ?_
  refine V.iload hc dX8_addFlow_38 rfl ?_
  obtain ⟨g8, hw⟩ := hw
  refine V.ast hc ak_43 g8 dX8_addFlow_40 (fun h7 e => ?_)
  replace hw := hw h7 e
  clear e
  refine V.aload_n (t := 8) hc dX8_addFlow_41 rfl rfl ?_
  refine V.dup hc dX8_addFlow_42 (by simp) ?_
  refine V.gI hc gI_X8_15 rfl dX8_addFlow_43 ?_
  refine V.iconst hc dX8_addFlow_46 ?_
  refine V.iadd hc dX8_addFlow_47 ?_
  refine V.pI hc pI_X8_15 rfl dX8_addFlow_48 (fun h9 e => ?_)
  replace hw := hw h9 e
  clear e
  exact V.vret hc hr dX8_addFlow_51 hw
theorem qX9_place (G : GG) (l : Launch) (o : Int) (h : HP) (P : Int → HP → Prop) (hw : wX9_place o h P) : CnI l G yX9_place cX9_place 1 (some .int) 8 [(19, o)] h P := by
  refine CnI.of (lo := [(19, o)]) (by decide) rfl rfl rfl ?_
  intro p e s m args below meth c hc hr
  have hc : VC G p (rmD 8 0) s m args meth c RX9 cX9_place 1 8 := hc
  refine V.aload_n (t := 9) hc dX9_place_0 rfl rfl ?_
  refine V.gI hc gI_X9_15 rfl dX9_place_1 ?_
  exact V.iret hc hr dX9_place_4 hw
theorem qX9_isLetter (G : GG) (l : Launch) (o : Int) (a1 : Int) (h : HP) (P : Int → HP → Prop) (hw : wX9_isLetter o a1 h P) : CnI l G yX9_isLetter cX9_isLetter 2 (some .boolean) 8 [(19, o), (0, a1)] h P := by
  refine CnI.of (lo := [(19, o), (0, a1)]) (by decide) rfl rfl rfl ?_
  intro p e s m args below meth c hc hr
  have hc : VC G p (rmD 8 0) s m args meth c RX9 cX9_isLetter 2 8 := hc
  refine V.aload_n (t := 9) hc dX9_isLetter_0 rfl rfl ?_
  refine V.gR hc gR_X9_27 (i' := 0) rfl dX9_isLetter_1 ?_
  refine V.iload_n hc dX9_isLetter_4 rfl rfl ?_
  obtain ⟨g1, hw⟩ := hw
  refine V.ald hc ak_45 g1 dX9_isLetter_5 ?_
  refine V.bipush hc dX9_isLetter_6 (by decide) ?_
  obtain ⟨q6, hw⟩ := hw
  have kJ8 : ∀ t5 : Int, ((h 45 0 a1 < 97 → t5 = 0) ∧ (¬ h 45 0 a1 < 97 → ((122 < h 45 0 a1 → t5 = 0) ∧ (¬ 122 < h 45 0 a1 → t5 = 1)))) → V G p l e (rmD 8 0) s m args below meth c (MQ below (QI G P) args s 0 0 (va_Aof G)) 2 27 [(1, 0), (1, 0)] [(0, t5)] h 0 := by
    intro t5 he
    replace hw := hw t5 he
    clear he
    obtain ⟨g7, hw⟩ := hw
    exact V.zret hc hr dX9_isLetter_27 g7 hw
  obtain ⟨g2, q9⟩ := q6
  refine V.icmp_lt hc (tgt := 26) dX9_isLetter_8 (by decide) g2 (by omega) (fun c10 => ?_) (fun c10 => ?_)
  · refine V.iconst hc dX9_isLetter_26 ?_
    refine V.drop (lo' := [(1, 0), (1, 0)]) ⟨Or.inl rfl, Or.inl rfl, trivial⟩ ?_
    exact kJ8 _ ⟨fun _ => rfl, (fun q => absurd c10 q)⟩
  · have q11 := q9 c10
    obtain ⟨g3, g4⟩ := q11
    refine V.aload_n (t := 9) hc dX9_isLetter_11 rfl rfl ?_
    refine V.gR hc gR_X9_27 (i' := 0) rfl dX9_isLetter_12 ?_
    refine V.iload_n hc dX9_isLetter_15 rfl rfl ?_
    refine V.ald hc ak_45 g3 dX9_isLetter_16 ?_
    refine V.bipush hc dX9_isLetter_17 (by decide) ?_
    refine V.icmp_gt hc (tgt := 26) dX9_isLetter_19 (by decide) g4 (by omega) (fun c12 => ?_) (fun c12 => ?_)
    · refine V.iconst hc dX9_isLetter_26 ?_
      refine V.drop (lo' := [(1, 0), (1, 0)]) ⟨Or.inl rfl, Or.inl rfl, trivial⟩ ?_
      exact kJ8 _ ⟨(fun q => absurd q c10), fun _ => ⟨fun _ => rfl, (fun q => absurd c12 q)⟩⟩
    · refine V.iconst hc dX9_isLetter_22 ?_
      refine V.goto hc (tgt := 27) dX9_isLetter_23 (by decide) ?_
      refine V.drop (lo' := [(1, 0), (1, 0)]) ⟨Or.inl rfl, Or.inl rfl, trivial⟩ ?_
      exact kJ8 _ ⟨(fun q => absurd q c10), fun _ => ⟨(fun q => absurd q c12), fun _ => rfl⟩⟩
theorem tX9_isWord_20 {G : GG} {p : Program} {l : Launch} {e : Jvm.Env} {s : State} {m : MethodId} {args : Array Value} {below : List Frame} {meth : Method} {c : Code} {P : Int → HP → Prop} (hc : VC G p (rmD 8 0) s m args meth c RX9 cX9_isWord 3 8) (hr : meth.sig.returnType = some .boolean) {o : Int} {s1 : Int} {K55 : HP → Prop} {K47 : HP → Prop} (hK55 : ∀  (h : HP), K55  h → V G p l e (rmD 8 0) s m args below meth c (MQ below (QI G P) args s 0 0 (va_Aof G)) 3 55 [(1, 0), (1, 0), (1, 0)] [] h 0) (hK47 : ∀  (h : HP), K47  h → V G p l e (rmD 8 0) s m args below meth c (MQ below (QI G P) args s 0 0 (va_Aof G)) 3 47 [(1, 0), (1, 0), (1, 0)] [] h 0) : ∀ (f : Nat) (l2 : Int) (h : HP), wX9_isWord_20 o s1 K55 K47 f l2 h → V G p l e (rmD 8 0) s m args below meth c (MQ below (QI G P) args s 0 0 (va_Aof G)) 3 20 [(19, o), (6, s1), (0, l2)] [] h 0 := by
  intro f
  induction f with
  | zero =>
    intro l2 h hw
    exact hw.elim
  | succ f ih =>
    intro l2 h hw
    refine V.iload_n hc dX9_isWord_20 rfl rfl ?_
    refine V.aloadS_n hc dX9_isWord_21 rfl rfl ?_
    refine V.sLen hc ml_X9_120 rfl rfl dX9_isWord_22 ?_
    obtain ⟨g4, hw⟩ := hw
    obtain ⟨g5, hw⟩ := hw
    refine V.icmp_ge hc (tgt := 55) dX9_isWord_25 (by decide) g4 g5 (fun c6 => ?_) (fun c6 => ?_)
    · replace hw := hw.1 c6
      refine V.drop (lo' := [(1, 0), (1, 0), (1, 0)]) ⟨Or.inl rfl, Or.inl rfl, Or.inl rfl, trivial⟩ ?_
      exact hK55 _ hw
    · replace hw := hw.2 c6
      refine V.aload_n (t := 9) hc dX9_isWord_28 rfl rfl ?_
      refine V.gR hc gR_X9_27 (i' := 0) rfl dX9_isWord_29 ?_
      refine V.aload_n (t := 9) hc dX9_isWord_32 rfl rfl ?_
      refine V.gI hc gI_X9_15 rfl dX9_isWord_33 ?_
      refine V.iload_n hc dX9_isWord_36 rfl rfl ?_
      refine V.iadd hc dX9_isWord_37 ?_
      obtain ⟨g7, hw⟩ := hw
      refine V.ald hc ak_45 g7 dX9_isWord_38 ?_
      refine V.aloadS_n hc dX9_isWord_39 rfl rfl ?_
      refine V.iload_n hc dX9_isWord_40 rfl rfl ?_
      obtain ⟨g8, hw⟩ := hw
      refine V.sChar hc ml_X9_125 rfl rfl g8 dX9_isWord_41 ?_
      obtain ⟨g9, hw⟩ := hw
      obtain ⟨g10, hw⟩ := hw
      refine V.icmp_eq hc (tgt := 49) dX9_isWord_44 (by decide) g9 g10 (fun c11 => ?_) (fun c11 => ?_)
      · replace hw := hw.1 c11
        refine V.iinc hc dX9_isWord_49 rfl rfl (lo' := [(19, o), (6, s1), (0, l2 + 1)]) rfl ?_
        refine V.goto hc (tgt := 20) dX9_isWord_52 (by decide) ?_
        exact ih _ _ hw
      · replace hw := hw.2 c11
        refine V.drop (lo' := [(1, 0), (1, 0), (1, 0)]) ⟨Or.inl rfl, Or.inl rfl, Or.inl rfl, trivial⟩ ?_
        exact hK47 _ hw
theorem qX9_isWord (G : GG) (l : Launch) (o : Int) (s1 : Int) (h : HP) (P : Int → HP → Prop) (hw : wX9_isWord o s1 h P) : CnI l G yX9_isWord cX9_isWord 3 (some .boolean) 8 [(19, o), (6, s1)] h P := by
  refine CnI.of (lo := [(19, o), (6, s1), (1, 0)]) (by decide) rfl rfl rfl ?_
  intro p e s m args below meth c hc hr
  have hc : VC G p (rmD 8 0) s m args meth c RX9 cX9_isWord 3 8 := hc
  refine V.aloadS_n hc dX9_isWord_0 rfl rfl ?_
  refine V.sLen hc ml_X9_120 rfl rfl dX9_isWord_1 ?_
  refine V.aload_n (t := 9) hc dX9_isWord_4 rfl rfl ?_
  refine V.gI hc gI_X9_18 rfl dX9_isWord_5 ?_
  refine V.aload_n (t := 9) hc dX9_isWord_8 rfl rfl ?_
  refine V.gI hc gI_X9_15 rfl dX9_isWord_9 ?_
  refine V.isub hc dX9_isWord_12 ?_
  obtain ⟨g1, hw⟩ := hw
  obtain ⟨g2, hw⟩ := hw
  refine V.icmp_eq hc (tgt := 18) dX9_isWord_13 (by decide) g1 g2 (fun c3 => ?_) (fun c3 => ?_)
  · replace hw := hw.1 c3
    refine V.iconst hc dX9_isWord_18 ?_
    refine V.istore_n hc dX9_isWord_19 rfl rfl (lo' := [(19, o), (6, s1), (0, 0)]) rfl ?_
    obtain ⟨f12, hw⟩ := hw
    refine tX9_isWord_20 hc hr ?_ ?_ f12 _ _ hw
    · intro h13 hw
      refine V.iconst hc dX9_isWord_55 ?_
      exact V.zret hc hr dX9_isWord_56 (by omega) hw
    · intro h14 hw
      refine V.iconst hc dX9_isWord_47 ?_
      exact V.zret hc hr dX9_isWord_48 (by omega) hw
  · replace hw := hw.2 c3
    refine V.iconst hc dX9_isWord_16 ?_
    exact V.zret hc hr dX9_isWord_17 (by omega) hw
theorem tX9_takeWord_0 {G : GG} {p : Program} {l : Launch} {e : Jvm.Env} {s : State} {m : MethodId} {args : Array Value} {below : List Frame} {meth : Method} {c : Code} {P : HP → Prop} (hc : VC G p (rmD 9 0) s m args meth c RX9 cX9_takeWord 1 9) (hr : meth.sig.returnType = none) {o : Int} {K35 : HP → Prop} (hK35 : ∀  (h : HP), K35  h → V G p l e (rmD 9 0) s m args below meth c (MQ below (QV G P) args s 0 0 (va_Aof G)) 1 35 [(19, o)] [] h 0) : ∀ (f : Nat)  (h : HP), wX9_takeWord_0 o K35 f  h → V G p l e (rmD 9 0) s m args below meth c (MQ below (QV G P) args s 0 0 (va_Aof G)) 1 0 [(19, o)] [] h 0 := by
  intro f
  induction f with
  | zero =>
    intro h hw
    exact hw.elim
  | succ f ih =>
    intro h hw
    refine V.aload_n (t := 9) hc dX9_takeWord_0 rfl rfl ?_
    refine V.gI hc gI_X9_18 rfl dX9_takeWord_1 ?_
    refine V.aload_n (t := 9) hc dX9_takeWord_4 rfl rfl ?_
    refine V.gI hc gI_X9_9 rfl dX9_takeWord_5 ?_
    obtain ⟨g1, hw⟩ := hw
    obtain ⟨g2, hw⟩ := hw
    refine V.icmp_ge hc (tgt := 35) dX9_takeWord_8 (by decide) g1 g2 (fun c3 => ?_) (fun c3 => ?_)
    · replace hw := hw.1 c3
      exact hK35 _ hw
    · replace hw := hw.2 c3
      refine V.aload_n (t := 9) hc dX9_takeWord_11 rfl rfl ?_
      refine V.aload_n (t := 9) hc dX9_takeWord_12 rfl rfl ?_
      refine V.gI hc gI_X9_18 rfl dX9_takeWord_13 ?_
      refine V.callVI hc (qX9_isLetter G l _ _ _ _ hw) mo_X9_isLetter ml_X9_91 (by rfl) rfl rfl (as := [(0, h 9 o 4)]) rfl rfl rfl rfl rfl ⟨Nat.zero_le _, Nat.zero_le _⟩ dX9_takeWord_16 (fun x5 h4 hw => ?_)
      obtain ⟨g6, hw⟩ := hw
      refine V.if_eq hc (tgt := 35) dX9_takeWord_19 (by decide) g6 (fun c7 => ?_) (fun c7 => ?_)
      · replace hw := hw.1 c7
        exact hK35 _ hw
      · replace hw := hw.2 c7
        refine V.aload_n (t := 9) hc dX9_takeWord_22 rfl rfl ?_
        refine V.dup hc dX9_takeWord_23 (by simp) ?_
        refine V.gI hc gI_X9_18 rfl dX9_takeWord_24 ?_
        refine V.iconst hc dX9_takeWord_27 ?_
        refine V.iadd hc dX9_takeWord_28 ?_
        refine V.pI hc pI_X9_18 rfl dX9_takeWord_29 (fun h8 e => ?_)
        replace hw := hw h8 e
        clear e
        refine V.goto hc (tgt := 0) dX9_takeWord_32 (by decide) ?_
        exact ih _ hw
theorem qX9_takeWord (G : GG) (l : Launch) (o : Int) (h : HP) (P : HP → Prop) (hw : wX9_takeWord o h P) : CnV l G yX9_takeWord cX9_takeWord 1 9 [(19, o)] h P := by
  refine CnV.of (lo := [(19, o)]) (by decide) rfl rfl rfl ?_
  intro p e s m args below meth c hc hr
  have hc : VC G p (rmD 9 0) s m args meth c RX9 cX9_takeWord 1 9 := hc
  obtain ⟨f9, hw⟩ := hw
  refine tX9_takeWord_0 hc hr ?_ f9 _ hw
  · intro h10 hw
    refine V.aload_n (t := 9) hc dX9_takeWord_35 rfl rfl ?_
    refine V.iconst hc dX9_takeWord_36 ?_
    refine V.pI hc pI_X9_21 rfl dX9_takeWord_37 (fun h11 e => ?_)
    replace hw := hw h11 e
    clear e
    refine V.aload_n (t := 9) hc dX9_takeWord_40 rfl rfl ?_
    refine V.aload_n (t := 9) hc dX9_takeWord_41 rfl rfl ?_
    refine V.ldcS hc sl_X9_103 rfl rfl dX9_takeWord_42 ?_
    refine V.callVI hc (qX9_isWord G l _ _ _ _ hw) mo_X9_isWord ml_X9_105 (by rfl) rfl rfl (as := [(6, 3)]) rfl rfl rfl rfl rfl ⟨Nat.zero_le _, Nat.zero_le _⟩ dX9_takeWord_44 (fun x13 h12 hw => ?_)
    obtain ⟨q16, hw⟩ := hw
    have kJ58 : ∀ t15 : Int, ((x13 = 0 → t15 = h12 9 o 5) ∧ (¬ x13 = 0 → t15 = 4)) → V G p l e (rmD 9 0) s m args below meth c (MQ below (QV G P) args s 0 0 (va_Aof G)) 1 58 [(19, o)] [(0, t15), (19, o)] h12 0 := by
      intro t15 he
      replace hw := hw t15 he
      clear he
      refine V.pI hc pI_X9_21 rfl dX9_takeWord_58 (fun h17 e => ?_)
      replace hw := hw h17 e
      clear e
      refine V.aload_n (t := 9) hc dX9_takeWord_61 rfl rfl ?_
      refine V.aload_n (t := 9) hc dX9_takeWord_62 rfl rfl ?_
      refine V.ldcS hc sl_X9_109 rfl rfl dX9_takeWord_63 ?_
      refine V.callVI hc (qX9_isWord G l _ _ _ _ hw) mo_X9_isWord ml_X9_105 (by rfl) rfl rfl (as := [(6, 4)]) rfl rfl rfl rfl rfl ⟨Nat.zero_le _, Nat.zero_le _⟩ dX9_takeWord_65 (fun x19 h18 hw => ?_)
      obtain ⟨q22, hw⟩ := hw
      have kJ56 : ∀ t21 : Int, ((x19 = 0 → t21 = h18 9 o 5) ∧ (¬ x19 = 0 → t21 = 5)) → V G p l e (rmD 9 0) s m args below meth c (MQ below (QV G P) args s 0 0 (va_Aof G)) 1 79 [(19, o)] [(0, t21), (19, o)] h18 0 := by
        intro t21 he
        replace hw := hw t21 he
        clear he
        refine V.pI hc pI_X9_21 rfl dX9_takeWord_79 (fun h23 e => ?_)
        replace hw := hw h23 e
        clear e
        refine V.aload_n (t := 9) hc dX9_takeWord_82 rfl rfl ?_
        refine V.aload_n (t := 9) hc dX9_takeWord_83 rfl rfl ?_
        refine V.ldcS hc sl_X9_111 rfl rfl dX9_takeWord_84 ?_
        refine V.callVI hc (qX9_isWord G l _ _ _ _ hw) mo_X9_isWord ml_X9_105 (by rfl) rfl rfl (as := [(6, 5)]) rfl rfl rfl rfl rfl ⟨Nat.zero_le _, Nat.zero_le _⟩ dX9_takeWord_86 (fun x25 h24 hw => ?_)
        obtain ⟨q28, hw⟩ := hw
        have kJ54 : ∀ t27 : Int, ((x25 = 0 → t27 = h24 9 o 5) ∧ (¬ x25 = 0 → t27 = 6)) → V G p l e (rmD 9 0) s m args below meth c (MQ below (QV G P) args s 0 0 (va_Aof G)) 1 101 [(19, o)] [(0, t27), (19, o)] h24 0 := by
          intro t27 he
          replace hw := hw t27 he
          clear he
          refine V.pI hc pI_X9_21 rfl dX9_takeWord_101 (fun h29 e => ?_)
          replace hw := hw h29 e
          clear e
          refine V.aload_n (t := 9) hc dX9_takeWord_104 rfl rfl ?_
          refine V.aload_n (t := 9) hc dX9_takeWord_105 rfl rfl ?_
          refine V.ldcS hc sl_X9_113 rfl rfl dX9_takeWord_106 ?_
          refine V.callVI hc (qX9_isWord G l _ _ _ _ hw) mo_X9_isWord ml_X9_105 (by rfl) rfl rfl (as := [(6, 0)]) rfl rfl rfl rfl rfl ⟨Nat.zero_le _, Nat.zero_le _⟩ dX9_takeWord_108 (fun x31 h30 hw => ?_)
          obtain ⟨q34, hw⟩ := hw
          have kJ52 : ∀ t33 : Int, ((x31 = 0 → t33 = h30 9 o 5) ∧ (¬ x31 = 0 → t33 = 7)) → V G p l e (rmD 9 0) s m args below meth c (MQ below (QV G P) args s 0 0 (va_Aof G)) 1 123 [(19, o)] [(0, t33), (19, o)] h30 0 := by
            intro t33 he
            replace hw := hw t33 he
            clear he
            refine V.pI hc pI_X9_21 rfl dX9_takeWord_123 (fun h35 e => ?_)
            replace hw := hw h35 e
            clear e
            refine V.aload_n (t := 9) hc dX9_takeWord_126 rfl rfl ?_
            refine V.aload_n (t := 9) hc dX9_takeWord_127 rfl rfl ?_
            refine V.ldcS hc sl_X9_115 rfl rfl dX9_takeWord_128 ?_
            refine V.callVI hc (qX9_isWord G l _ _ _ _ hw) mo_X9_isWord ml_X9_105 (by rfl) rfl rfl (as := [(6, 1)]) rfl rfl rfl rfl rfl ⟨Nat.zero_le _, Nat.zero_le _⟩ dX9_takeWord_130 (fun x37 h36 hw => ?_)
            obtain ⟨q40, hw⟩ := hw
            have kJ50 : ∀ t39 : Int, ((x37 = 0 → t39 = h36 9 o 5) ∧ (¬ x37 = 0 → t39 = 8)) → V G p l e (rmD 9 0) s m args below meth c (MQ below (QV G P) args s 0 0 (va_Aof G)) 1 145 [(19, o)] [(0, t39), (19, o)] h36 0 := by
              intro t39 he
              replace hw := hw t39 he
              clear he
              refine V.pI hc pI_X9_21 rfl dX9_takeWord_145 (fun h41 e => ?_)
              replace hw := hw h41 e
              clear e
              refine V.aload_n (t := 9) hc dX9_takeWord_148 rfl rfl ?_
              refine V.aload_n (t := 9) hc dX9_takeWord_149 rfl rfl ?_
              refine V.ldcS hc sl_X9_117 rfl rfl dX9_takeWord_150 ?_
              refine V.callVI hc (qX9_isWord G l _ _ _ _ hw) mo_X9_isWord ml_X9_105 (by rfl) rfl rfl (as := [(6, 2)]) rfl rfl rfl rfl rfl ⟨Nat.zero_le _, Nat.zero_le _⟩ dX9_takeWord_152 (fun x43 h42 hw => ?_)
              obtain ⟨q46, hw⟩ := hw
              have kJ48 : ∀ t45 : Int, ((x43 = 0 → t45 = h42 9 o 5) ∧ (¬ x43 = 0 → t45 = 9)) → V G p l e (rmD 9 0) s m args below meth c (MQ below (QV G P) args s 0 0 (va_Aof G)) 1 167 [(1, 0)] [(0, t45), (19, o)] h42 0 := by
                intro t45 he
                replace hw := hw t45 he
                clear he
                refine V.pI hc pI_X9_21 rfl dX9_takeWord_167 (fun h47 e => ?_)
                replace hw := hw h47 e
                clear e
                exact V.vret hc hr dX9_takeWord_170 hw
              have g44 := q46
              refine V.if_eq hc (tgt := 163) dX9_takeWord_155 (by decide) g44 (fun c49 => ?_) (fun c49 => ?_)
              · refine V.aload_n (t := 9) hc dX9_takeWord_163 rfl rfl ?_
                refine V.gI hc gI_X9_21 rfl dX9_takeWord_164 ?_
                refine V.drop (lo' := [(1, 0)]) ⟨Or.inl rfl, trivial⟩ ?_
                exact kJ48 _ ⟨fun _ => rfl, (fun q => absurd c49 q)⟩
              · refine V.bipush hc dX9_takeWord_158 (by decide) ?_
                refine V.goto hc (tgt := 167) dX9_takeWord_160 (by decide) ?_
                refine V.drop (lo' := [(1, 0)]) ⟨Or.inl rfl, trivial⟩ ?_
                exact kJ48 _ ⟨(fun q => absurd q c49), fun _ => rfl⟩
            have g38 := q40
            refine V.if_eq hc (tgt := 141) dX9_takeWord_133 (by decide) g38 (fun c51 => ?_) (fun c51 => ?_)
            · refine V.aload_n (t := 9) hc dX9_takeWord_141 rfl rfl ?_
              refine V.gI hc gI_X9_21 rfl dX9_takeWord_142 ?_
              exact kJ50 _ ⟨fun _ => rfl, (fun q => absurd c51 q)⟩
            · refine V.bipush hc dX9_takeWord_136 (by decide) ?_
              refine V.goto hc (tgt := 145) dX9_takeWord_138 (by decide) ?_
              exact kJ50 _ ⟨(fun q => absurd q c51), fun _ => rfl⟩
          have g32 := q34
          refine V.if_eq hc (tgt := 119) dX9_takeWord_111 (by decide) g32 (fun c53 => ?_) (fun c53 => ?_)
          · refine V.aload_n (t := 9) hc dX9_takeWord_119 rfl rfl ?_
            refine V.gI hc gI_X9_21 rfl dX9_takeWord_120 ?_
            exact kJ52 _ ⟨fun _ => rfl, (fun q => absurd c53 q)⟩
          · refine V.bipush hc dX9_takeWord_114 (by decide) ?_
            refine V.goto hc (tgt := 123) dX9_takeWord_116 (by decide) ?_
            exact kJ52 _ ⟨(fun q => absurd q c53), fun _ => rfl⟩
        have g26 := q28
        refine V.if_eq hc (tgt := 97) dX9_takeWord_89 (by decide) g26 (fun c55 => ?_) (fun c55 => ?_)
        · refine V.aload_n (t := 9) hc dX9_takeWord_97 rfl rfl ?_
          refine V.gI hc gI_X9_21 rfl dX9_takeWord_98 ?_
          exact kJ54 _ ⟨fun _ => rfl, (fun q => absurd c55 q)⟩
        · refine V.bipush hc dX9_takeWord_92 (by decide) ?_
          refine V.goto hc (tgt := 101) dX9_takeWord_94 (by decide) ?_
          exact kJ54 _ ⟨(fun q => absurd q c55), fun _ => rfl⟩
      have g20 := q22
      refine V.if_eq hc (tgt := 75) dX9_takeWord_68 (by decide) g20 (fun c57 => ?_) (fun c57 => ?_)
      · refine V.aload_n (t := 9) hc dX9_takeWord_75 rfl rfl ?_
        refine V.gI hc gI_X9_21 rfl dX9_takeWord_76 ?_
        exact kJ56 _ ⟨fun _ => rfl, (fun q => absurd c57 q)⟩
      · refine V.iconst hc dX9_takeWord_71 ?_
        refine V.goto hc (tgt := 79) dX9_takeWord_72 (by decide) ?_
        exact kJ56 _ ⟨(fun q => absurd q c57), fun _ => rfl⟩
    have g14 := q16
    refine V.if_eq hc (tgt := 54) dX9_takeWord_47 (by decide) g14 (fun c59 => ?_) (fun c59 => ?_)
    · refine V.aload_n (t := 9) hc dX9_takeWord_54 rfl rfl ?_
      refine V.gI hc gI_X9_21 rfl dX9_takeWord_55 ?_
      exact kJ58 _ ⟨fun _ => rfl, (fun q => absurd c59 q)⟩
    · refine V.iconst hc dX9_takeWord_50 ?_
      refine V.goto hc (tgt := 58) dX9_takeWord_51 (by decide) ?_
      exact kJ58 _ ⟨(fun q => absurd q c59), fun _ => rfl⟩
theorem qX9_isDigit (G : GG) (l : Launch) (o : Int) (a1 : Int) (h : HP) (P : Int → HP → Prop) (hw : wX9_isDigit o a1 h P) : CnI l G yX9_isDigit cX9_isDigit 2 (some .boolean) 8 [(19, o), (0, a1)] h P := by
  refine CnI.of (lo := [(19, o), (0, a1)]) (by decide) rfl rfl rfl ?_
  intro p e s m args below meth c hc hr
  have hc : VC G p (rmD 8 0) s m args meth c RX9 cX9_isDigit 2 8 := hc
  refine V.aload_n (t := 9) hc dX9_isDigit_0 rfl rfl ?_
  refine V.gR hc gR_X9_27 (i' := 0) rfl dX9_isDigit_1 ?_
  refine V.iload_n hc dX9_isDigit_4 rfl rfl ?_
  obtain ⟨g1, hw⟩ := hw
  refine V.ald hc ak_45 g1 dX9_isDigit_5 ?_
  refine V.bipush hc dX9_isDigit_6 (by decide) ?_
  obtain ⟨q6, hw⟩ := hw
  have kJ8 : ∀ t5 : Int, ((h 45 0 a1 < 48 → t5 = 0) ∧ (¬ h 45 0 a1 < 48 → ((57 < h 45 0 a1 → t5 = 0) ∧ (¬ 57 < h 45 0 a1 → t5 = 1)))) → V G p l e (rmD 8 0) s m args below meth c (MQ below (QI G P) args s 0 0 (va_Aof G)) 2 27 [(1, 0), (1, 0)] [(0, t5)] h 0 := by
    intro t5 he
    replace hw := hw t5 he
    clear he
    obtain ⟨g7, hw⟩ := hw
    exact V.zret hc hr dX9_isDigit_27 g7 hw
  obtain ⟨g2, q9⟩ := q6
  refine V.icmp_lt hc (tgt := 26) dX9_isDigit_8 (by decide) g2 (by omega) (fun c10 => ?_) (fun c10 => ?_)
  · refine V.iconst hc dX9_isDigit_26 ?_
    refine V.drop (lo' := [(1, 0), (1, 0)]) ⟨Or.inl rfl, Or.inl rfl, trivial⟩ ?_
    exact kJ8 _ ⟨fun _ => rfl, (fun q => absurd c10 q)⟩
  · have q11 := q9 c10
    obtain ⟨g3, g4⟩ := q11
    refine V.aload_n (t := 9) hc dX9_isDigit_11 rfl rfl ?_
    refine V.gR hc gR_X9_27 (i' := 0) rfl dX9_isDigit_12 ?_
    refine V.iload_n hc dX9_isDigit_15 rfl rfl ?_
    refine V.ald hc ak_45 g3 dX9_isDigit_16 ?_
    refine V.bipush hc dX9_isDigit_17 (by decide) ?_
    refine V.icmp_gt hc (tgt := 26) dX9_isDigit_19 (by decide) g4 (by omega) (fun c12 => ?_) (fun c12 => ?_)
    · refine V.iconst hc dX9_isDigit_26 ?_
      refine V.drop (lo' := [(1, 0), (1, 0)]) ⟨Or.inl rfl, Or.inl rfl, trivial⟩ ?_
      exact kJ8 _ ⟨(fun q => absurd q c10), fun _ => ⟨fun _ => rfl, (fun q => absurd c12 q)⟩⟩
    · refine V.iconst hc dX9_isDigit_22 ?_
      refine V.goto hc (tgt := 27) dX9_isDigit_23 (by decide) ?_
      refine V.drop (lo' := [(1, 0), (1, 0)]) ⟨Or.inl rfl, Or.inl rfl, trivial⟩ ?_
      exact kJ8 _ ⟨(fun q => absurd q c10), fun _ => ⟨(fun q => absurd q c12), fun _ => rfl⟩⟩
theorem tX9_takeNumber_10 {G : GG} {p : Program} {l : Launch} {e : Jvm.Env} {s : State} {m : MethodId} {args : Array Value} {below : List Frame} {meth : Method} {c : Code} {P : HP → Prop} (hc : VC G p (rmD 9 0) s m args meth c RX9 cX9_takeNumber 1 9) (hr : meth.sig.returnType = none) {o : Int} {K95 : HP → Prop} (hK95 : ∀  (h : HP), K95  h → V G p l e (rmD 9 0) s m args below meth c (MQ below (QV G P) args s 0 0 (va_Aof G)) 1 95 [(1, 0)] [] h 0) : ∀ (f : Nat)  (h : HP), wX9_takeNumber_10 o K95 f  h → V G p l e (rmD 9 0) s m args below meth c (MQ below (QV G P) args s 0 0 (va_Aof G)) 1 10 [(19, o)] [] h 0 := by
  intro f
  induction f with
  | zero =>
    intro h hw
    exact hw.elim
  | succ f ih =>
    intro h hw
    refine V.aload_n (t := 9) hc dX9_takeNumber_10 rfl rfl ?_
    refine V.gI hc gI_X9_18 rfl dX9_takeNumber_11 ?_
    refine V.aload_n (t := 9) hc dX9_takeNumber_14 rfl rfl ?_
    refine V.gI hc gI_X9_9 rfl dX9_takeNumber_15 ?_
    obtain ⟨g3, hw⟩ := hw
    obtain ⟨g4, hw⟩ := hw
    refine V.icmp_ge hc (tgt := 95) dX9_takeNumber_18 (by decide) g3 g4 (fun c5 => ?_) (fun c5 => ?_)
    · replace hw := hw.1 c5
      refine V.drop (lo' := [(1, 0)]) ⟨Or.inl rfl, trivial⟩ ?_
      exact hK95 _ hw
    · replace hw := hw.2 c5
      refine V.aload_n (t := 9) hc dX9_takeNumber_21 rfl rfl ?_
      refine V.aload_n (t := 9) hc dX9_takeNumber_22 rfl rfl ?_
      refine V.gI hc gI_X9_18 rfl dX9_takeNumber_23 ?_
      refine V.callVI hc (qX9_isDigit G l _ _ _ _ hw) mo_X9_isDigit ml_X9_97 (by rfl) rfl rfl (as := [(0, h 9 o 4)]) rfl rfl rfl rfl rfl ⟨Nat.zero_le _, Nat.zero_le _⟩ dX9_takeNumber_26 (fun x7 h6 hw => ?_)
      obtain ⟨g8, hw⟩ := hw
      refine V.if_eq hc (tgt := 95) dX9_takeNumber_29 (by decide) g8 (fun c9 => ?_) (fun c9 => ?_)
      · replace hw := hw.1 c9
        refine V.drop (lo' := [(1, 0)]) ⟨Or.inl rfl, trivial⟩ ?_
        exact hK95 _ hw
      · replace hw := hw.2 c9
        refine V.aload_n (t := 9) hc dX9_takeNumber_32 rfl rfl ?_
        refine V.aload_n (t := 9) hc dX9_takeNumber_33 rfl rfl ?_
        refine V.gI hc gI_X9_24 rfl dX9_takeNumber_34 ?_
        refine V.bipush hc dX9_takeNumber_37 (by decide) ?_
        refine V.imul hc dX9_takeNumber_39 ?_
        refine V.aload_n (t := 9) hc dX9_takeNumber_40 rfl rfl ?_
        refine V.gR hc gR_X9_27 (i' := 0) rfl dX9_takeNumber_41 ?_
        refine V.aload_n (t := 9) hc dX9_takeNumber_44 rfl rfl ?_
        refine V.gI hc gI_X9_18 rfl dX9_takeNumber_45 ?_
        obtain ⟨g10, hw⟩ := hw
        refine V.ald hc ak_45 g10 dX9_takeNumber_48 ?_
        refine V.iadd hc dX9_takeNumber_49 ?_
        refine V.bipush hc dX9_takeNumber_50 (by decide) ?_
        refine V.isub hc dX9_takeNumber_52 ?_
        refine V.pI hc pI_X9_24 rfl dX9_takeNumber_53 (fun h11 e => ?_)
        replace hw := hw h11 e
        clear e
        refine V.aload_n (t := 9) hc dX9_takeNumber_56 rfl rfl ?_
        refine V.aload_n (t := 9) hc dX9_takeNumber_57 rfl rfl ?_
        refine V.gI hc gI_X9_18 rfl dX9_takeNumber_58 ?_
        refine V.aload_n (t := 9) hc dX9_takeNumber_61 rfl rfl ?_
        refine V.gI hc gI_X9_15 rfl dX9_takeNumber_62 ?_
        refine V.isub hc dX9_takeNumber_65 ?_
        refine V.iconst hc dX9_takeNumber_66 ?_
        obtain ⟨q14, hw⟩ := hw
        have kJ17 : ∀ t13 : Int, (((h11 9 o 4) - (h11 9 o 3) < 3 → t13 = h11 9 o 6) ∧ (¬ (h11 9 o 4) - (h11 9 o 3) < 3 → t13 = 1000000)) → V G p l e (rmD 9 0) s m args below meth c (MQ below (QV G P) args s 0 0 (va_Aof G)) 1 79 [(19, o)] [(0, t13), (19, o)] h11 0 := by
          intro t13 he
          replace hw := hw t13 he
          clear he
          refine V.pI hc pI_X9_24 rfl dX9_takeNumber_79 (fun h15 e => ?_)
          replace hw := hw h15 e
          clear e
          refine V.aload_n (t := 9) hc dX9_takeNumber_82 rfl rfl ?_
          refine V.dup hc dX9_takeNumber_83 (by simp) ?_
          refine V.gI hc gI_X9_18 rfl dX9_takeNumber_84 ?_
          refine V.iconst hc dX9_takeNumber_87 ?_
          refine V.iadd hc dX9_takeNumber_88 ?_
          refine V.pI hc pI_X9_18 rfl dX9_takeNumber_89 (fun h16 e => ?_)
          replace hw := hw h16 e
          clear e
          refine V.goto hc (tgt := 10) dX9_takeNumber_92 (by decide) ?_
          exact ih _ hw
        have g12 := q14
        refine V.icmp_lt hc (tgt := 75) dX9_takeNumber_67 (by decide) g12 (by omega) (fun c18 => ?_) (fun c18 => ?_)
        · refine V.aload_n (t := 9) hc dX9_takeNumber_75 rfl rfl ?_
          refine V.gI hc gI_X9_24 rfl dX9_takeNumber_76 ?_
          exact kJ17 _ ⟨fun _ => rfl, (fun q => absurd c18 q)⟩
        · refine V.ldc hc (x := 1000000) kl_X9_119 dX9_takeNumber_70 ?_
          refine V.goto hc (tgt := 79) dX9_takeNumber_72 (by decide) ?_
          exact kJ17 _ ⟨(fun q => absurd q c18), fun _ => rfl⟩
theorem qX9_takeNumber (G : GG) (l : Launch) (o : Int) (h : HP) (P : HP → Prop) (hw : wX9_takeNumber o h P) : CnV l G yX9_takeNumber cX9_takeNumber 1 9 [(19, o)] h P := by
  refine CnV.of (lo := [(19, o)]) (by decide) rfl rfl rfl ?_
  intro p e s m args below meth c hc hr
  have hc : VC G p (rmD 9 0) s m args meth c RX9 cX9_takeNumber 1 9 := hc
  refine V.aload_n (t := 9) hc dX9_takeNumber_0 rfl rfl ?_
  refine V.iconst hc dX9_takeNumber_1 ?_
  refine V.pI hc pI_X9_21 rfl dX9_takeNumber_2 (fun h1 e => ?_)
  replace hw := hw h1 e
  clear e
  refine V.aload_n (t := 9) hc dX9_takeNumber_5 rfl rfl ?_
  refine V.iconst hc dX9_takeNumber_6 ?_
  refine V.pI hc pI_X9_24 rfl dX9_takeNumber_7 (fun h2 e => ?_)
  replace hw := hw h2 e
  clear e
  obtain ⟨f19, hw⟩ := hw
  refine tX9_takeNumber_10 hc hr ?_ f19 _ hw
  · intro h20 hw
    exact V.vret hc hr dX9_takeNumber_95 hw
theorem tX9_takeToken_47 {G : GG} {p : Program} {l : Launch} {e : Jvm.Env} {s : State} {m : MethodId} {args : Array Value} {below : List Frame} {meth : Method} {c : Code} {P : HP → Prop} (hc : VC G p (rmD 10 0) s m args meth c RX9 cX9_takeToken 1 10) (hr : meth.sig.returnType = none) {o : Int} {h : HP} {K8 : HP → Prop} (hK8 : ∀  (h : HP), K8  h → V G p l e (rmD 10 0) s m args below meth c (MQ below (QV G P) args s 0 0 (va_Aof G)) 1 8 [(19, o)] [] h 0) (hw : wX9_takeToken_47 o K8 h) : V G p l e (rmD 10 0) s m args below meth c (MQ below (QV G P) args s 0 0 (va_Aof G)) 1 47 [(19, o)] [] h 0 := by
  refine V.aload_n (t := 9) hc dX9_takeToken_47 rfl rfl ?_
  refine V.dup hc dX9_takeToken_48 (by simp) ?_
  refine V.gI hc gI_X9_15 rfl dX9_takeToken_49 ?_
  refine V.iconst hc dX9_takeToken_52 ?_
  refine V.iadd hc dX9_takeToken_53 ?_
  refine V.pI hc pI_X9_15 rfl dX9_takeToken_54 (fun h8 e => ?_)
  replace hw := hw h8 e
  clear e
  refine V.goto hc (tgt := 8) dX9_takeToken_57 (by decide) ?_
  exact hK8 _ hw
theorem tX9_takeToken_8 {G : GG} {p : Program} {l : Launch} {e : Jvm.Env} {s : State} {m : MethodId} {args : Array Value} {below : List Frame} {meth : Method} {c : Code} {P : HP → Prop} (hc : VC G p (rmD 10 0) s m args meth c RX9 cX9_takeToken 1 10) (hr : meth.sig.returnType = none) {o : Int} {K60 : HP → Prop} (hK60 : ∀  (h : HP), K60  h → V G p l e (rmD 10 0) s m args below meth c (MQ below (QV G P) args s 0 0 (va_Aof G)) 1 60 [(19, o)] [] h 0) : ∀ (f : Nat)  (h : HP), wX9_takeToken_8 o K60 f  h → V G p l e (rmD 10 0) s m args below meth c (MQ below (QV G P) args s 0 0 (va_Aof G)) 1 8 [(19, o)] [] h 0 := by
  intro f
  induction f with
  | zero =>
    intro h hw
    exact hw.elim
  | succ f ih =>
    intro h hw
    refine V.aload_n (t := 9) hc dX9_takeToken_8 rfl rfl ?_
    refine V.gI hc gI_X9_15 rfl dX9_takeToken_9 ?_
    refine V.aload_n (t := 9) hc dX9_takeToken_12 rfl rfl ?_
    refine V.gI hc gI_X9_9 rfl dX9_takeToken_13 ?_
    obtain ⟨g2, hw⟩ := hw
    obtain ⟨g3, hw⟩ := hw
    refine V.icmp_ge hc (tgt := 60) dX9_takeToken_16 (by decide) g2 g3 (fun c4 => ?_) (fun c4 => ?_)
    · replace hw := hw.1 c4
      exact hK60 _ hw
    · replace hw := hw.2 c4
      refine V.aload_n (t := 9) hc dX9_takeToken_19 rfl rfl ?_
      refine V.gR hc gR_X9_27 (i' := 0) rfl dX9_takeToken_20 ?_
      refine V.aload_n (t := 9) hc dX9_takeToken_23 rfl rfl ?_
      refine V.gI hc gI_X9_15 rfl dX9_takeToken_24 ?_
      obtain ⟨g5, hw⟩ := hw
      refine V.ald hc ak_45 g5 dX9_takeToken_27 ?_
      refine V.bipush hc dX9_takeToken_28 (by decide) ?_
      obtain ⟨g6, hw⟩ := hw
      refine V.icmp_eq hc (tgt := 47) dX9_takeToken_30 (by decide) g6 (by omega) (fun c7 => ?_) (fun c7 => ?_)
      · replace hw := hw.1 c7
        exact tX9_takeToken_47 hc hr (fun hy hw => by exact ih _ hw) hw
      · replace hw := hw.2 c7
        refine V.aload_n (t := 9) hc dX9_takeToken_33 rfl rfl ?_
        refine V.gR hc gR_X9_27 (i' := 0) rfl dX9_takeToken_34 ?_
        refine V.aload_n (t := 9) hc dX9_takeToken_37 rfl rfl ?_
        refine V.gI hc gI_X9_15 rfl dX9_takeToken_38 ?_
        obtain ⟨g9, hw⟩ := hw
        refine V.ald hc ak_45 g9 dX9_takeToken_41 ?_
        refine V.bipush hc dX9_takeToken_42 (by decide) ?_
        obtain ⟨g10, hw⟩ := hw
        refine V.icmp_ne hc (tgt := 60) dX9_takeToken_44 (by decide) g10 (by omega) (fun c11 => ?_) (fun c11 => ?_)
        · replace hw := hw.1 c11
          exact hK60 _ hw
        · replace hw := hw.2 c11
          exact tX9_takeToken_47 hc hr (fun hy hw => by exact ih _ hw) hw
theorem qX9_takeToken (G : GG) (l : Launch) (o : Int) (h : HP) (P : HP → Prop) (hw : wX9_takeToken o h P) : CnV l G yX9_takeToken cX9_takeToken 1 10 [(19, o)] h P := by
  refine CnV.of (lo := [(19, o)]) (by decide) rfl rfl rfl ?_
  intro p e s m args below meth c hc hr
  have hc : VC G p (rmD 10 0) s m args meth c RX9 cX9_takeToken 1 10 := hc
  refine V.aload_n (t := 9) hc dX9_takeToken_0 rfl rfl ?_
  refine V.aload_n (t := 9) hc dX9_takeToken_1 rfl rfl ?_
  refine V.gI hc gI_X9_18 rfl dX9_takeToken_2 ?_
  refine V.pI hc pI_X9_15 rfl dX9_takeToken_5 (fun h1 e => ?_)
  replace hw := hw h1 e
  clear e
  obtain ⟨f12, hw⟩ := hw
  refine tX9_takeToken_8 hc hr ?_ f12 _ hw
  · intro h13 hw
    refine V.aload_n (t := 9) hc dX9_takeToken_60 rfl rfl ?_
    refine V.aload_n (t := 9) hc dX9_takeToken_61 rfl rfl ?_
    refine V.gI hc gI_X9_15 rfl dX9_takeToken_62 ?_
    refine V.pI hc pI_X9_18 rfl dX9_takeToken_65 (fun h14 e => ?_)
    replace hw := hw h14 e
    clear e
    refine V.aload_n (t := 9) hc dX9_takeToken_68 rfl rfl ?_
    refine V.gI hc gI_X9_15 rfl dX9_takeToken_69 ?_
    refine V.aload_n (t := 9) hc dX9_takeToken_72 rfl rfl ?_
    refine V.gI hc gI_X9_9 rfl dX9_takeToken_73 ?_
    obtain ⟨g15, hw⟩ := hw
    obtain ⟨g16, hw⟩ := hw
    refine V.icmp_lt hc (tgt := 87) dX9_takeToken_76 (by decide) g15 g16 (fun c17 => ?_) (fun c17 => ?_)
    · replace hw := hw.1 c17
      refine V.aload_n (t := 9) hc dX9_takeToken_87 rfl rfl ?_
      refine V.aload_n (t := 9) hc dX9_takeToken_88 rfl rfl ?_
      refine V.gI hc gI_X9_15 rfl dX9_takeToken_89 ?_
      refine V.callVI hc (qX9_isLetter G l _ _ _ _ hw) mo_X9_isLetter ml_X9_91 (by rfl) rfl rfl (as := [(0, h14 9 o 3)]) rfl rfl rfl rfl rfl ⟨Nat.zero_le _, Nat.zero_le _⟩ dX9_takeToken_92 (fun x19 h18 hw => ?_)
      obtain ⟨g20, hw⟩ := hw
      refine V.if_eq hc (tgt := 105) dX9_takeToken_95 (by decide) g20 (fun c21 => ?_) (fun c21 => ?_)
      · replace hw := hw.1 c21
        refine V.aload_n (t := 9) hc dX9_takeToken_105 rfl rfl ?_
        refine V.aload_n (t := 9) hc dX9_takeToken_106 rfl rfl ?_
        refine V.gI hc gI_X9_15 rfl dX9_takeToken_107 ?_
        refine V.callVI hc (qX9_isDigit G l _ _ _ _ hw) mo_X9_isDigit ml_X9_97 (by rfl) rfl rfl (as := [(0, h18 9 o 3)]) rfl rfl rfl rfl rfl ⟨Nat.zero_le _, Nat.zero_le _⟩ dX9_takeToken_110 (fun x23 h22 hw => ?_)
        obtain ⟨g24, hw⟩ := hw
        refine V.if_eq hc (tgt := 123) dX9_takeToken_113 (by decide) g24 (fun c25 => ?_) (fun c25 => ?_)
        · replace hw := hw.1 c25
          refine V.aload_n (t := 9) hc dX9_takeToken_123 rfl rfl ?_
          refine V.aload_n (t := 9) hc dX9_takeToken_124 rfl rfl ?_
          refine V.gR hc gR_X9_27 (i' := 0) rfl dX9_takeToken_125 ?_
          refine V.aload_n (t := 9) hc dX9_takeToken_128 rfl rfl ?_
          refine V.gI hc gI_X9_15 rfl dX9_takeToken_129 ?_
          obtain ⟨g26, hw⟩ := hw
          refine V.ald hc ak_45 g26 dX9_takeToken_132 ?_
          refine V.bipush hc dX9_takeToken_133 (by decide) ?_
          obtain ⟨q29, hw⟩ := hw
          have kJ32 : ∀ t28 : Int, ((¬ h22 45 0 (h22 9 o 3) = 59 → t28 = 1) ∧ (h22 45 0 (h22 9 o 3) = 59 → t28 = 3)) → V G p l e (rmD 10 0) s m args below meth c (MQ below (QV G P) args s 0 0 (va_Aof G)) 1 143 [(19, o)] [(0, t28), (19, o)] h22 0 := by
            intro t28 he
            replace hw := hw t28 he
            clear he
            refine V.pI hc pI_X9_21 rfl dX9_takeToken_143 (fun h30 e => ?_)
            replace hw := hw h30 e
            clear e
            refine V.aload_n (t := 9) hc dX9_takeToken_146 rfl rfl ?_
            refine V.aload_n (t := 9) hc dX9_takeToken_147 rfl rfl ?_
            refine V.gI hc gI_X9_15 rfl dX9_takeToken_148 ?_
            refine V.iconst hc dX9_takeToken_151 ?_
            refine V.iadd hc dX9_takeToken_152 ?_
            refine V.pI hc pI_X9_18 rfl dX9_takeToken_153 (fun h31 e => ?_)
            replace hw := hw h31 e
            clear e
            exact V.vret hc hr dX9_takeToken_156 hw
          have g27 := q29
          refine V.icmp_ne hc (tgt := 142) dX9_takeToken_135 (by decide) g27 (by omega) (fun c33 => ?_) (fun c33 => ?_)
          · refine V.iconst hc dX9_takeToken_142 ?_
            exact kJ32 _ ⟨fun _ => rfl, (fun q => absurd q c33)⟩
          · refine V.iconst hc dX9_takeToken_138 ?_
            refine V.goto hc (tgt := 143) dX9_takeToken_139 (by decide) ?_
            exact kJ32 _ ⟨(fun q => absurd c33 q), fun _ => rfl⟩
        · replace hw := hw.2 c25
          refine V.aload_n (t := 9) hc dX9_takeToken_116 rfl rfl ?_
          refine V.callVV hc (qX9_takeNumber G l _ _ _ hw) mo_X9_takeNumber ml_X9_100 (by rfl) rfl rfl (as := []) rfl rfl rfl rfl rfl ⟨Nat.zero_le _, Nat.zero_le _⟩ dX9_takeToken_117 (fun h34 hw => ?_)
          refine V.goto hc (tgt := 156) dX9_takeToken_120 (by decide) ?_
          exact V.vret hc hr dX9_takeToken_156 hw
      · replace hw := hw.2 c21
        refine V.aload_n (t := 9) hc dX9_takeToken_98 rfl rfl ?_
        refine V.callVV hc (qX9_takeWord G l _ _ _ hw) mo_X9_takeWord ml_X9_94 (by rfl) rfl rfl (as := []) rfl rfl rfl rfl rfl ⟨Nat.zero_le _, Nat.zero_le _⟩ dX9_takeToken_99 (fun h35 hw => ?_)
        refine V.goto hc (tgt := 156) dX9_takeToken_102 (by decide) ?_
        exact V.vret hc hr dX9_takeToken_156 hw
    · replace hw := hw.2 c17
      refine V.aload_n (t := 9) hc dX9_takeToken_79 rfl rfl ?_
      refine V.iconst hc dX9_takeToken_80 ?_
      refine V.pI hc pI_X9_21 rfl dX9_takeToken_81 (fun h36 e => ?_)
      replace hw := hw h36 e
      clear e
      refine V.goto hc (tgt := 156) dX9_takeToken_84 (by decide) ?_
      exact V.vret hc hr dX9_takeToken_156 hw
theorem qX9_readNumber (G : GG) (l : Launch) (o : Int) (a1 : Int) (a2 : Int) (h : HP) (P : Int → HP → Prop) (hw : wX9_readNumber o a1 a2 h P) : CnI l G yX9_readNumber cX9_readNumber 3 (some .int) 11 [(19, o), (0, a1), (0, a2)] h P := by
  refine CnI.of (lo := [(19, o), (0, a1), (0, a2)]) (by decide) rfl rfl rfl ?_
  intro p e s m args below meth c hc hr
  have hc : VC G p (rmD 11 0) s m args meth c RX9 cX9_readNumber 3 11 := hc
  refine V.aload_n (t := 9) hc dX9_readNumber_0 rfl rfl ?_
  refine V.callVV hc (qX9_takeToken G l _ _ _ hw) mo_X9_takeToken ml_X9_40 (by rfl) rfl rfl (as := []) rfl rfl rfl rfl rfl ⟨Nat.zero_le _, Nat.zero_le _⟩ dX9_readNumber_1 (fun h1 hw => ?_)
  refine V.aload_n (t := 9) hc dX9_readNumber_4 rfl rfl ?_
  refine V.gI hc gI_X9_21 rfl dX9_readNumber_5 ?_
  refine V.iconst hc dX9_readNumber_8 ?_
  obtain ⟨g2, hw⟩ := hw
  refine V.icmp_eq hc (tgt := 14) dX9_readNumber_9 (by decide) g2 (by omega) (fun c3 => ?_) (fun c3 => ?_)
  · replace hw := hw.1 c3
    refine V.aload_n (t := 9) hc dX9_readNumber_14 rfl rfl ?_
    refine V.gI hc gI_X9_24 rfl dX9_readNumber_15 ?_
    refine V.iload_n hc dX9_readNumber_18 rfl rfl ?_
    obtain ⟨q9, hw⟩ := hw
    have kJ10 : ∀ t8 : Int, ((h1 9 o 6 < a1 → t8 = 2) ∧ (¬ h1 9 o 6 < a1 → ((h1 9 o 6 ≤ a2 → t8 = 0) ∧ (¬ h1 9 o 6 ≤ a2 → t8 = 2)))) → V G p l e (rmD 11 0) s m args below meth c (MQ below (QI G P) args s 0 0 (va_Aof G)) 3 35 [(1, 0), (1, 0), (1, 0)] [(0, t8)] h1 0 := by
      intro t8 he
      replace hw := hw t8 he
      clear he
      exact V.iret hc hr dX9_readNumber_35 hw
    obtain ⟨g4, g5, q11⟩ := q9
    refine V.icmp_lt hc (tgt := 30) dX9_readNumber_19 (by decide) g4 g5 (fun c12 => ?_) (fun c12 => ?_)
    · refine V.iconst hc dX9_readNumber_30 ?_
      refine V.goto hc (tgt := 35) dX9_readNumber_31 (by decide) ?_
      refine V.drop (lo' := [(1, 0), (1, 0), (1, 0)]) ⟨Or.inl rfl, Or.inl rfl, Or.inl rfl, trivial⟩ ?_
      exact kJ10 _ ⟨fun _ => rfl, (fun q => absurd c12 q)⟩
    · have q13 := q11 c12
      obtain ⟨g6, g7⟩ := q13
      refine V.aload_n (t := 9) hc dX9_readNumber_22 rfl rfl ?_
      refine V.gI hc gI_X9_24 rfl dX9_readNumber_23 ?_
      refine V.iload_n hc dX9_readNumber_26 rfl rfl ?_
      refine V.icmp_le hc (tgt := 34) dX9_readNumber_27 (by decide) g6 g7 (fun c14 => ?_) (fun c14 => ?_)
      · refine V.iconst hc dX9_readNumber_34 ?_
        refine V.drop (lo' := [(1, 0), (1, 0), (1, 0)]) ⟨Or.inl rfl, Or.inl rfl, Or.inl rfl, trivial⟩ ?_
        exact kJ10 _ ⟨(fun q => absurd q c12), fun _ => ⟨fun _ => rfl, (fun q => absurd c14 q)⟩⟩
      · refine V.iconst hc dX9_readNumber_30 ?_
        refine V.goto hc (tgt := 35) dX9_readNumber_31 (by decide) ?_
        refine V.drop (lo' := [(1, 0), (1, 0), (1, 0)]) ⟨Or.inl rfl, Or.inl rfl, Or.inl rfl, trivial⟩ ?_
        exact kJ10 _ ⟨(fun q => absurd q c12), fun _ => ⟨(fun q => absurd q c14), fun _ => rfl⟩⟩
  · replace hw := hw.2 c3
    refine V.iconst hc dX9_readNumber_12 ?_
    exact V.iret hc hr dX9_readNumber_13 hw
theorem qX9_readClass (G : GG) (l : Launch) (o : Int) (h : HP) (P : Int → HP → Prop) (hw : wX9_readClass o h P) : CnI l G yX9_readClass cX9_readClass 3 (some .int) 12 [(19, o)] h P := by
  refine CnI.of (lo := [(19, o), (1, 0), (1, 0)]) (by decide) rfl rfl rfl ?_
  intro p e s m args below meth c hc hr
  have hc : VC G p (rmD 12 0) s m args meth c RX9 cX9_readClass 3 12 := hc
  refine V.aload_n (t := 9) hc dX9_readClass_0 rfl rfl ?_
  refine V.gR hc gR_X9_31 (i' := 2) rfl dX9_readClass_1 ?_
  refine V.gI hc gI_X9_47 rfl dX9_readClass_4 ?_
  refine V.bipush hc dX9_readClass_7 (by decide) ?_
  obtain ⟨g1, hw⟩ := hw
  refine V.icmp_lt hc (tgt := 14) dX9_readClass_9 (by decide) g1 (by omega) (fun c2 => ?_) (fun c2 => ?_)
  · replace hw := hw.1 c2
    refine V.bipush hc dX9_readClass_14 (by decide) ?_
    refine V.istore_n hc dX9_readClass_16 rfl rfl (lo' := [(19, o), (0, 12), (1, 0)]) rfl ?_
    refine V.aload_n (t := 9) hc dX9_readClass_17 rfl rfl ?_
    refine V.callVV hc (qX9_takeToken G l _ _ _ hw) mo_X9_takeToken ml_X9_40 (by rfl) rfl rfl (as := []) rfl rfl rfl rfl rfl ⟨Nat.zero_le _, Nat.zero_le _⟩ dX9_readClass_18 (fun h3 hw => ?_)
    refine V.aload_n (t := 9) hc dX9_readClass_21 rfl rfl ?_
    refine V.gI hc gI_X9_21 rfl dX9_readClass_22 ?_
    refine V.bipush hc dX9_readClass_25 (by decide) ?_
    obtain ⟨g4, hw⟩ := hw
    refine V.icmp_ne hc (tgt := 69) dX9_readClass_27 (by decide) g4 (by omega) (fun c5 => ?_) (fun c5 => ?_)
    · replace hw := hw.1 c5
      refine V.aload_n (t := 9) hc dX9_readClass_69 rfl rfl ?_
      refine V.gR hc gR_X9_31 (i' := 2) rfl dX9_readClass_70 ?_
      refine V.iload_n hc dX9_readClass_73 rfl rfl ?_
      refine V.callVV hc (qX8_addClass G l _ _ _ _ hw) mo_X8_addClass ml_X9_65 (by rfl) rfl rfl (as := [(0, 12)]) rfl rfl rfl rfl rfl ⟨Nat.zero_le _, Nat.zero_le _⟩ dX9_readClass_74 (fun h6 hw => ?_)
      refine V.iconst hc dX9_readClass_77 ?_
      exact V.iret hc hr dX9_readClass_78 hw
    · replace hw := hw.2 c5
      refine V.aload_n (t := 9) hc dX9_readClass_30 rfl rfl ?_
      refine V.iconst hc dX9_readClass_31 ?_
      refine V.bipush hc dX9_readClass_32 (by decide) ?_
      refine V.callVI hc (qX9_readNumber G l _ _ _ _ _ hw) mo_X9_readNumber ml_X9_57 (by rfl) rfl rfl (as := [(0, 0), (0, 11)]) rfl rfl rfl rfl rfl ⟨Nat.zero_le _, Nat.zero_le _⟩ dX9_readClass_34 (fun x8 h7 hw => ?_)
      refine V.istore_n hc dX9_readClass_37 rfl rfl (lo' := [(19, o), (0, 12), (0, x8)]) rfl ?_
      refine V.iload_n hc dX9_readClass_38 rfl rfl ?_
      obtain ⟨g9, hw⟩ := hw
      refine V.if_eq hc (tgt := 44) dX9_readClass_39 (by decide) g9 (fun c10 => ?_) (fun c10 => ?_)
      · replace hw := hw.1 c10
        refine V.aload_n (t := 9) hc dX9_readClass_44 rfl rfl ?_
        refine V.gR hc gR_X9_31 (i' := 2) rfl dX9_readClass_45 ?_
        refine V.aload_n (t := 9) hc dX9_readClass_48 rfl rfl ?_
        refine V.gI hc gI_X9_24 rfl dX9_readClass_49 ?_
        refine V.callVI hc (qX8_mayHoldClass G l _ _ _ _ hw) mo_X8_mayHoldClass ml_X9_61 (by rfl) rfl rfl (as := [(0, h7 9 o 6)]) rfl rfl rfl rfl rfl ⟨Nat.zero_le _, Nat.zero_le _⟩ dX9_readClass_52 (fun x12 h11 hw => ?_)
        obtain ⟨g13, hw⟩ := hw
        refine V.if_ne hc (tgt := 60) dX9_readClass_55 (by decide) g13 (fun c14 => ?_) (fun c14 => ?_)
        · replace hw := hw.1 c14
          refine V.aload_n (t := 9) hc dX9_readClass_60 rfl rfl ?_
          refine V.gI hc gI_X9_24 rfl dX9_readClass_61 ?_
          refine V.istore_n hc dX9_readClass_64 rfl rfl (lo' := [(19, o), (0, h11 9 o 6), (0, x8)]) rfl ?_
          refine V.aload_n (t := 9) hc dX9_readClass_65 rfl rfl ?_
          refine V.callVV hc (qX9_takeToken G l _ _ _ hw) mo_X9_takeToken ml_X9_40 (by rfl) rfl rfl (as := []) rfl rfl rfl rfl rfl ⟨Nat.zero_le _, Nat.zero_le _⟩ dX9_readClass_66 (fun h15 hw => ?_)
          refine V.aload_n (t := 9) hc dX9_readClass_69 rfl rfl ?_
          refine V.gR hc gR_X9_31 (i' := 2) rfl dX9_readClass_70 ?_
          refine V.iload_n hc dX9_readClass_73 rfl rfl ?_
          refine V.callVV hc (qX8_addClass G l _ _ _ _ hw) mo_X8_addClass ml_X9_65 (by rfl) rfl rfl (as := [(0, h11 9 o 6)]) rfl rfl rfl rfl rfl ⟨Nat.zero_le _, Nat.zero_le _⟩ dX9_readClass_74 (fun h16 hw => ?_)
          refine V.iconst hc dX9_readClass_77 ?_
          exact V.iret hc hr dX9_readClass_78 hw
        · replace hw := hw.2 c14
          refine V.iconst hc dX9_readClass_58 ?_
          exact V.iret hc hr dX9_readClass_59 hw
      · replace hw := hw.2 c10
        refine V.iload_n hc dX9_readClass_42 rfl rfl ?_
        exact V.iret hc hr dX9_readClass_43 hw
  · replace hw := hw.2 c2
    refine V.iconst hc dX9_readClass_12 ?_
    exact V.iret hc hr dX9_readClass_13 hw
theorem tX9_readCurve_43 {G : GG} {p : Program} {l : Launch} {e : Jvm.Env} {s : State} {m : MethodId} {args : Array Value} {below : List Frame} {meth : Method} {c : Code} {P : Int → HP → Prop} (hc : VC G p (rmD 12 0) s m args meth c RX9 cX9_readCurve 5 12) (hr : meth.sig.returnType = some .int) {o : Int} {a1 : Int} {l2 : Int} {l3 : Int} {l4 : Int} {h : HP} (hw : wX9_readCurve_43 o a1 l2 l3 l4 P h) : V G p l e (rmD 12 0) s m args below meth c (MQ below (QI G P) args s 0 0 (va_Aof G)) 5 43 [(19, o), (0, a1), (0, l2), (0, l3), (0, l4)] [] h 0 := by
  refine V.iload_n hc dX9_readCurve_43 rfl rfl ?_
  obtain ⟨g7, hw⟩ := hw
  refine V.if_ne hc (tgt := 65) dX9_readCurve_44 (by decide) g7 (fun c8 => ?_) (fun c8 => ?_)
  · replace hw := hw.1 c8
    refine V.iload_n hc dX9_readCurve_65 rfl rfl ?_
    exact V.iret hc hr dX9_readCurve_66 hw
  · replace hw := hw.2 c8
    refine V.aload_n (t := 9) hc dX9_readCurve_47 rfl rfl ?_
    refine V.gR hc gR_X9_31 (i' := 2) rfl dX9_readCurve_48 ?_
    refine V.gR hc gR_X9_74 (i' := 2) rfl dX9_readCurve_51 ?_
    refine V.iload_n hc dX9_readCurve_54 rfl rfl ?_
    refine V.iload_n hc dX9_readCurve_55 rfl rfl ?_
    refine V.iload hc dX9_readCurve_56 rfl ?_
    refine V.aload_n (t := 9) hc dX9_readCurve_58 rfl rfl ?_
    refine V.gI hc gI_X9_24 rfl dX9_readCurve_59 ?_
    refine V.callVV hc (qX1_put G l _ _ _ _ _ _ _ hw) mo_X1_put ml_X9_78 (by rfl) rfl rfl (as := [(0, a1), (0, l3), (0, l4), (0, h 9 o 6)]) rfl rfl rfl rfl rfl ⟨Nat.zero_le _, Nat.zero_le _⟩ dX9_readCurve_62 (fun h9 hw => ?_)
    refine V.iload_n hc dX9_readCurve_65 rfl rfl ?_
    exact V.iret hc hr dX9_readCurve_66 hw
theorem tX9_readCurve_25 {G : GG} {p : Program} {l : Launch} {e : Jvm.Env} {s : State} {m : MethodId} {args : Array Value} {below : List Frame} {meth : Method} {c : Code} {P : Int → HP → Prop} (hc : VC G p (rmD 12 0) s m args meth c RX9 cX9_readCurve 5 12) (hr : meth.sig.returnType = some .int) {o : Int} {a1 : Int} {l2 : Int} {l3 : Int} {h : HP} (hw : wX9_readCurve_25 o a1 l2 l3 P h) : V G p l e (rmD 12 0) s m args below meth c (MQ below (QI G P) args s 0 0 (va_Aof G)) 5 25 [(19, o), (0, a1), (0, l2), (0, l3), (1, 0)] [] h 0 := by
  refine V.aload_n (t := 9) hc dX9_readCurve_25 rfl rfl ?_
  refine V.gI hc gI_X9_24 rfl dX9_readCurve_26 ?_
  refine V.istore hc dX9_readCurve_29 rfl (lo' := [(19, o), (0, a1), (0, l2), (0, l3), (0, h 9 o 6)]) rfl ?_
  refine V.iload_n hc dX9_readCurve_31 rfl rfl ?_
  obtain ⟨g5, hw⟩ := hw
  refine V.if_ne hc (tgt := 43) dX9_readCurve_32 (by decide) g5 (fun c6 => ?_) (fun c6 => ?_)
  · replace hw := hw.1 c6
    exact tX9_readCurve_43 hc hr  hw
  · replace hw := hw.2 c6
    refine V.aload_n (t := 9) hc dX9_readCurve_35 rfl rfl ?_
    refine V.iconst hc dX9_readCurve_36 ?_
    refine V.bipush hc dX9_readCurve_37 (by decide) ?_
    refine V.callVI hc (qX9_readNumber G l _ _ _ _ _ hw) mo_X9_readNumber ml_X9_57 (by rfl) rfl rfl (as := [(0, 1), (0, 100)]) rfl rfl rfl rfl rfl ⟨Nat.zero_le _, Nat.zero_le _⟩ dX9_readCurve_39 (fun x11 h10 hw => ?_)
    refine V.istore_n hc dX9_readCurve_42 rfl rfl (lo' := [(19, o), (0, a1), (0, x11), (0, l3), (0, h 9 o 6)]) rfl ?_
    exact tX9_readCurve_43 hc hr  hw
theorem qX9_readCurve (G : GG) (l : Launch) (o : Int) (a1 : Int) (h : HP) (P : Int → HP → Prop) (hw : wX9_readCurve o a1 h P) : CnI l G yX9_readCurve cX9_readCurve 5 (some .int) 12 [(19, o), (0, a1)] h P := by
  refine CnI.of (lo := [(19, o), (0, a1), (1, 0), (1, 0), (1, 0)]) (by decide) rfl rfl rfl ?_
  intro p e s m args below meth c hc hr
  have hc : VC G p (rmD 12 0) s m args meth c RX9 cX9_readCurve 5 12 := hc
  refine V.aload_n (t := 9) hc dX9_readCurve_0 rfl rfl ?_
  refine V.iconst hc dX9_readCurve_1 ?_
  refine V.bipush hc dX9_readCurve_2 (by decide) ?_
  refine V.callVI hc (qX9_readNumber G l _ _ _ _ _ hw) mo_X9_readNumber ml_X9_57 (by rfl) rfl rfl (as := [(0, 0), (0, 100)]) rfl rfl rfl rfl rfl ⟨Nat.zero_le _, Nat.zero_le _⟩ dX9_readCurve_4 (fun x2 h1 hw => ?_)
  refine V.istore_n hc dX9_readCurve_7 rfl rfl (lo' := [(19, o), (0, a1), (0, x2), (1, 0), (1, 0)]) rfl ?_
  refine V.aload_n (t := 9) hc dX9_readCurve_8 rfl rfl ?_
  refine V.gI hc gI_X9_24 rfl dX9_readCurve_9 ?_
  refine V.istore_n hc dX9_readCurve_12 rfl rfl (lo' := [(19, o), (0, a1), (0, x2), (0, h1 9 o 6), (1, 0)]) rfl ?_
  refine V.iload_n hc dX9_readCurve_13 rfl rfl ?_
  obtain ⟨g3, hw⟩ := hw
  refine V.if_ne hc (tgt := 25) dX9_readCurve_14 (by decide) g3 (fun c4 => ?_) (fun c4 => ?_)
  · replace hw := hw.1 c4
    exact tX9_readCurve_25 hc hr  hw
  · replace hw := hw.2 c4
    refine V.aload_n (t := 9) hc dX9_readCurve_17 rfl rfl ?_
    refine V.iconst hc dX9_readCurve_18 ?_
    refine V.bipush hc dX9_readCurve_19 (by decide) ?_
    refine V.callVI hc (qX9_readNumber G l _ _ _ _ _ hw) mo_X9_readNumber ml_X9_57 (by rfl) rfl rfl (as := [(0, 0), (0, 30)]) rfl rfl rfl rfl rfl ⟨Nat.zero_le _, Nat.zero_le _⟩ dX9_readCurve_21 (fun x13 h12 hw => ?_)
    refine V.istore_n hc dX9_readCurve_24 rfl rfl (lo' := [(19, o), (0, a1), (0, x13), (0, h1 9 o 6), (1, 0)]) rfl ?_
    exact tX9_readCurve_25 hc hr  hw
theorem tX9_readCurves_4 {G : GG} {p : Program} {l : Launch} {e : Jvm.Env} {s : State} {m : MethodId} {args : Array Value} {below : List Frame} {meth : Method} {c : Code} {P : Int → HP → Prop} (hc : VC G p (rmD 13 0) s m args meth c RX9 cX9_readCurves 6 13) (hr : meth.sig.returnType = some .int) {o : Int} {a1 : Int} {K79 : HP → Prop} {K31 : HP → Prop} {K42 : HP → Prop} {K66 : Int → HP → Prop} (hK79 : ∀  (h : HP), K79  h → V G p l e (rmD 13 0) s m args below meth c (MQ below (QI G P) args s 0 0 (va_Aof G)) 6 79 [(1, 0), (1, 0), (1, 0), (1, 0), (1, 0), (1, 0)] [] h 0) (hK31 : ∀  (h : HP), K31  h → V G p l e (rmD 13 0) s m args below meth c (MQ below (QI G P) args s 0 0 (va_Aof G)) 6 31 [(1, 0), (1, 0), (1, 0), (1, 0), (1, 0), (1, 0)] [] h 0) (hK42 : ∀  (h : HP), K42  h → V G p l e (rmD 13 0) s m args below meth c (MQ below (QI G P) args s 0 0 (va_Aof G)) 6 42 [(1, 0), (1, 0), (1, 0), (1, 0), (1, 0), (1, 0)] [] h 0) (hK66 : ∀ (x5 : Int) (h : HP), K66 x5 h → V G p l e (rmD 13 0) s m args below meth c (MQ below (QI G P) args s 0 0 (va_Aof G)) 6 66 [(1, 0), (1, 0), (1, 0), (1, 0), (1, 0), (0, x5)] [] h 0) : ∀ (f : Nat) (l2 : Int) (l3 : Int) (h : HP), wX9_readCurves_4 o a1 K79 K31 K42 K66 f l2 l3 h → V G p l e (rmD 13 0) s m args below meth c (MQ below (QI G P) args s 0 0 (va_Aof G)) 6 4 [(19, o), (0, a1), (0, l2), (0, l3), (1, 0), (1, 0)] [] h 0 := by
  intro f
  induction f with
  | zero =>
    intro l2 l3 h hw
    exact hw.elim
  | succ f ih =>
    intro l2 l3 h hw
    refine V.iload_n hc dX9_readCurves_4 rfl rfl ?_
    refine V.iconst hc dX9_readCurves_5 ?_
    obtain ⟨g1, hw⟩ := hw
    refine V.icmp_gt hc (tgt := 79) dX9_readCurves_6 (by decide) g1 (by omega) (fun c2 => ?_) (fun c2 => ?_)
    · replace hw := hw.1 c2
      refine V.drop (lo' := [(1, 0), (1, 0), (1, 0), (1, 0), (1, 0), (1, 0)]) ⟨Or.inl rfl, Or.inl rfl, Or.inl rfl, Or.inl rfl, Or.inr rfl, Or.inr rfl, trivial⟩ ?_
      exact hK79 _ hw
    · replace hw := hw.2 c2
      refine V.aload_n (t := 9) hc dX9_readCurves_9 rfl rfl ?_
      refine V.gI hc gI_X9_21 rfl dX9_readCurves_10 ?_
      refine V.iconst hc dX9_readCurves_13 ?_
      obtain ⟨g3, hw⟩ := hw
      refine V.icmp_eq hc (tgt := 79) dX9_readCurves_14 (by decide) g3 (by omega) (fun c4 => ?_) (fun c4 => ?_)
      · replace hw := hw.1 c4
        refine V.drop (lo' := [(1, 0), (1, 0), (1, 0), (1, 0), (1, 0), (1, 0)]) ⟨Or.inl rfl, Or.inl rfl, Or.inl rfl, Or.inl rfl, Or.inr rfl, Or.inr rfl, trivial⟩ ?_
        exact hK79 _ hw
      · replace hw := hw.2 c4
        refine V.aload_n (t := 9) hc dX9_readCurves_17 rfl rfl ?_
        refine V.gI hc gI_X9_21 rfl dX9_readCurves_18 ?_
        refine V.bipush hc dX9_readCurves_21 (by decide) ?_
        refine V.isub hc dX9_readCurves_23 ?_
        refine V.istore hc dX9_readCurves_24 rfl (lo' := [(19, o), (0, a1), (0, l2), (0, l3), (0, (h 9 o 5) - 7), (1, 0)]) rfl ?_
        refine V.iload hc dX9_readCurves_26 rfl ?_
        obtain ⟨g5, hw⟩ := hw
        refine V.if_ge hc (tgt := 33) dX9_readCurves_28 (by decide) g5 (fun c6 => ?_) (fun c6 => ?_)
        · replace hw := hw.1 c6
          refine V.iload_n hc dX9_readCurves_33 rfl rfl ?_
          refine V.iload hc dX9_readCurves_34 rfl ?_
          refine V.ishr hc dX9_readCurves_36 ?_
          refine V.iconst hc dX9_readCurves_37 ?_
          refine V.iand hc dX9_readCurves_38 ?_
          obtain ⟨g7, hw⟩ := hw
          refine V.if_eq hc (tgt := 44) dX9_readCurves_39 (by decide) g7 (fun c8 => ?_) (fun c8 => ?_)
          · replace hw := hw.1 c8
            refine V.iload_n hc dX9_readCurves_44 rfl rfl ?_
            refine V.iconst hc dX9_readCurves_45 ?_
            refine V.iload hc dX9_readCurves_46 rfl ?_
            refine V.ishl hc dX9_readCurves_48 ?_
            refine V.ior hc dX9_readCurves_49 ?_
            refine V.istore_n hc dX9_readCurves_50 rfl rfl (lo' := [(19, o), (0, a1), (0, bOr l2 (bShl 1 ((h 9 o 5) - 7))), (0, l3), (0, (h 9 o 5) - 7), (1, 0)]) rfl ?_
            refine V.aload_n (t := 9) hc dX9_readCurves_51 rfl rfl ?_
            refine V.iload_n hc dX9_readCurves_52 rfl rfl ?_
            refine V.iload hc dX9_readCurves_53 rfl ?_
            refine V.iadd hc dX9_readCurves_55 ?_
            refine V.callVI hc (qX9_readCurve G l _ _ _ _ hw) mo_X9_readCurve ml_X9_69 (by rfl) rfl rfl (as := [(0, a1 + ((h 9 o 5) - 7))]) rfl rfl rfl rfl rfl ⟨Nat.zero_le _, Nat.zero_le _⟩ dX9_readCurves_56 (fun x10 h9 hw => ?_)
            refine V.istore hc dX9_readCurves_59 rfl (lo' := [(19, o), (0, a1), (0, bOr l2 (bShl 1 ((h 9 o 5) - 7))), (0, l3), (0, (h 9 o 5) - 7), (0, x10)]) rfl ?_
            refine V.iload hc dX9_readCurves_61 rfl ?_
            obtain ⟨g11, hw⟩ := hw
            refine V.if_eq hc (tgt := 69) dX9_readCurves_63 (by decide) g11 (fun c12 => ?_) (fun c12 => ?_)
            · replace hw := hw.1 c12
              refine V.aload_n (t := 9) hc dX9_readCurves_69 rfl rfl ?_
              refine V.callVV hc (qX9_takeToken G l _ _ _ hw) mo_X9_takeToken ml_X9_40 (by rfl) rfl rfl (as := []) rfl rfl rfl rfl rfl ⟨Nat.zero_le _, Nat.zero_le _⟩ dX9_readCurves_70 (fun h13 hw => ?_)
              refine V.iinc hc dX9_readCurves_73 rfl rfl (lo' := [(19, o), (0, a1), (0, bOr l2 (bShl 1 ((h 9 o 5) - 7))), (0, l3 + 1), (0, (h 9 o 5) - 7), (0, x10)]) rfl ?_
              refine V.goto hc (tgt := 4) dX9_readCurves_76 (by decide) ?_
              refine V.drop (lo' := [(19, o), (0, a1), (0, bOr l2 (bShl 1 ((h 9 o 5) - 7))), (0, l3 + 1), (1, 0), (1, 0)]) ⟨Or.inr rfl, Or.inr rfl, Or.inr rfl, Or.inr rfl, Or.inl rfl, Or.inl rfl, trivial⟩ ?_
              exact ih _ _ _ hw
            · replace hw := hw.2 c12
              refine V.drop (lo' := [(1, 0), (1, 0), (1, 0), (1, 0), (1, 0), (0, x10)]) ⟨Or.inl rfl, Or.inl rfl, Or.inl rfl, Or.inl rfl, Or.inl rfl, Or.inr rfl, trivial⟩ ?_
              exact hK66 _ _ hw
          · replace hw := hw.2 c8
            refine V.drop (lo' := [(1, 0), (1, 0), (1, 0), (1, 0), (1, 0), (1, 0)]) ⟨Or.inl rfl, Or.inl rfl, Or.inl rfl, Or.inl rfl, Or.inl rfl, Or.inr rfl, trivial⟩ ?_
            exact hK42 _ hw
        · replace hw := hw.2 c6
          refine V.drop (lo' := [(1, 0), (1, 0), (1, 0), (1, 0), (1, 0), (1, 0)]) ⟨Or.inl rfl, Or.inl rfl, Or.inl rfl, Or.inl rfl, Or.inl rfl, Or.inr rfl, trivial⟩ ?_
          exact hK31 _ hw
theorem qX9_readCurves (G : GG) (l : Launch) (o : Int) (a1 : Int) (h : HP) (P : Int → HP → Prop) (hw : wX9_readCurves o a1 h P) : CnI l G yX9_readCurves cX9_readCurves 6 (some .int) 13 [(19, o), (0, a1)] h P := by
  refine CnI.of (lo := [(19, o), (0, a1), (1, 0), (1, 0), (1, 0), (1, 0)]) (by decide) rfl rfl rfl ?_
  intro p e s m args below meth c hc hr
  have hc : VC G p (rmD 13 0) s m args meth c RX9 cX9_readCurves 6 13 := hc
  refine V.iconst hc dX9_readCurves_0 ?_
  refine V.istore_n hc dX9_readCurves_1 rfl rfl (lo' := [(19, o), (0, a1), (0, 0), (1, 0), (1, 0), (1, 0)]) rfl ?_
  refine V.iconst hc dX9_readCurves_2 ?_
  refine V.istore_n hc dX9_readCurves_3 rfl rfl (lo' := [(19, o), (0, a1), (0, 0), (0, 0), (1, 0), (1, 0)]) rfl ?_
  obtain ⟨f14, hw⟩ := hw
  refine tX9_readCurves_4 hc hr ?_ ?_ ?_ ?_ f14 _ _ _ hw
  · intro h15 hw
    refine V.iconst hc dX9_readCurves_79 ?_
    exact V.iret hc hr dX9_readCurves_80 hw
  · intro h16 hw
    refine V.iconst hc dX9_readCurves_31 ?_
    exact V.iret hc hr dX9_readCurves_32 hw
  · intro h17 hw
    refine V.iconst hc dX9_readCurves_42 ?_
    exact V.iret hc hr dX9_readCurves_43 hw
  · intro l18 h19 hw
    refine V.iload hc dX9_readCurves_66 rfl ?_
    exact V.iret hc hr dX9_readCurves_68 hw
theorem tX9_readFlow_93 {G : GG} {p : Program} {l : Launch} {e : Jvm.Env} {s : State} {m : MethodId} {args : Array Value} {below : List Frame} {meth : Method} {c : Code} {P : Int → HP → Prop} (hc : VC G p (rmD 12 0) s m args meth c RX9 cX9_readFlow 5 12) (hr : meth.sig.returnType = some .int) {o : Int} {l1 : Int} {l2 : Int} {l3 : Int} {l4 : Int} {h : HP} (hw : wX9_readFlow_93 o l1 l2 l3 l4 P h) : V G p l e (rmD 12 0) s m args below meth c (MQ below (QI G P) args s 0 0 (va_Aof G)) 5 93 [(19, o), (0, l1), (0, l2), (0, l3), (0, l4)] [] h 0 := by
  refine V.iload_n hc dX9_readFlow_93 rfl rfl ?_
  obtain ⟨g13, hw⟩ := hw
  refine V.if_eq hc (tgt := 99) dX9_readFlow_94 (by decide) g13 (fun c14 => ?_) (fun c14 => ?_)
  · replace hw := hw.1 c14
    refine V.aload_n (t := 9) hc dX9_readFlow_99 rfl rfl ?_
    refine V.gR hc gR_X9_31 (i' := 2) rfl dX9_readFlow_100 ?_
    refine V.iload_n hc dX9_readFlow_103 rfl rfl ?_
    refine V.iload_n hc dX9_readFlow_104 rfl rfl ?_
    refine V.iload hc dX9_readFlow_105 rfl ?_
    refine V.aload_n (t := 9) hc dX9_readFlow_107 rfl rfl ?_
    refine V.gI hc gI_X9_24 rfl dX9_readFlow_108 ?_
    refine V.callVV hc (qX8_addFlow G l _ _ _ _ _ _ _ hw) mo_X8_addFlow ml_X9_88 (by rfl) rfl rfl (as := [(0, l2), (0, l3), (0, l4), (0, h 9 o 6)]) rfl rfl rfl rfl rfl ⟨Nat.zero_le _, Nat.zero_le _⟩ dX9_readFlow_111 (fun h15 hw => ?_)
    refine V.aload_n (t := 9) hc dX9_readFlow_114 rfl rfl ?_
    refine V.callVV hc (qX9_takeToken G l _ _ _ hw) mo_X9_takeToken ml_X9_40 (by rfl) rfl rfl (as := []) rfl rfl rfl rfl rfl ⟨Nat.zero_le _, Nat.zero_le _⟩ dX9_readFlow_115 (fun h16 hw => ?_)
    refine V.aload_n (t := 9) hc dX9_readFlow_118 rfl rfl ?_
    refine V.gI hc gI_X9_21 rfl dX9_readFlow_119 ?_
    refine V.iconst hc dX9_readFlow_122 ?_
    obtain ⟨q19, hw⟩ := hw
    have kJ20 : ∀ t18 : Int, ((¬ h16 9 o 5 = 3 → t18 = 1) ∧ (h16 9 o 5 = 3 → t18 = 0)) → V G p l e (rmD 12 0) s m args below meth c (MQ below (QI G P) args s 0 0 (va_Aof G)) 5 131 [(1, 0), (1, 0), (1, 0), (1, 0), (1, 0)] [(0, t18)] h16 0 := by
      intro t18 he
      replace hw := hw t18 he
      clear he
      exact V.iret hc hr dX9_readFlow_131 hw
    have g17 := q19
    refine V.icmp_ne hc (tgt := 130) dX9_readFlow_123 (by decide) g17 (by omega) (fun c21 => ?_) (fun c21 => ?_)
    · refine V.iconst hc dX9_readFlow_130 ?_
      refine V.drop (lo' := [(1, 0), (1, 0), (1, 0), (1, 0), (1, 0)]) ⟨Or.inl rfl, Or.inl rfl, Or.inl rfl, Or.inl rfl, Or.inl rfl, trivial⟩ ?_
      exact kJ20 _ ⟨fun _ => rfl, (fun q => absurd q c21)⟩
    · refine V.iconst hc dX9_readFlow_126 ?_
      refine V.goto hc (tgt := 131) dX9_readFlow_127 (by decide) ?_
      refine V.drop (lo' := [(1, 0), (1, 0), (1, 0), (1, 0), (1, 0)]) ⟨Or.inl rfl, Or.inl rfl, Or.inl rfl, Or.inl rfl, Or.inl rfl, trivial⟩ ?_
      exact kJ20 _ ⟨(fun q => absurd c21 q), fun _ => rfl⟩
  · replace hw := hw.2 c14
    refine V.iload_n hc dX9_readFlow_97 rfl rfl ?_
    exact V.iret hc hr dX9_readFlow_98 hw
theorem tX9_readFlow_75 {G : GG} {p : Program} {l : Launch} {e : Jvm.Env} {s : State} {m : MethodId} {args : Array Value} {below : List Frame} {meth : Method} {c : Code} {P : Int → HP → Prop} (hc : VC G p (rmD 12 0) s m args meth c RX9 cX9_readFlow 5 12) (hr : meth.sig.returnType = some .int) {o : Int} {l1 : Int} {l2 : Int} {l3 : Int} {h : HP} (hw : wX9_readFlow_75 o l1 l2 l3 P h) : V G p l e (rmD 12 0) s m args below meth c (MQ below (QI G P) args s 0 0 (va_Aof G)) 5 75 [(19, o), (0, l1), (0, l2), (0, l3), (1, 0)] [] h 0 := by
  refine V.aload_n (t := 9) hc dX9_readFlow_75 rfl rfl ?_
  refine V.gI hc gI_X9_24 rfl dX9_readFlow_76 ?_
  refine V.istore hc dX9_readFlow_79 rfl (lo' := [(19, o), (0, l1), (0, l2), (0, l3), (0, h 9 o 6)]) rfl ?_
  refine V.iload_n hc dX9_readFlow_81 rfl rfl ?_
  obtain ⟨g11, hw⟩ := hw
  refine V.if_ne hc (tgt := 93) dX9_readFlow_82 (by decide) g11 (fun c12 => ?_) (fun c12 => ?_)
  · replace hw := hw.1 c12
    exact tX9_readFlow_93 hc hr  hw
  · replace hw := hw.2 c12
    refine V.aload_n (t := 9) hc dX9_readFlow_85 rfl rfl ?_
    refine V.iconst hc dX9_readFlow_86 ?_
    refine V.bipush hc dX9_readFlow_87 (by decide) ?_
    refine V.callVI hc (qX9_readNumber G l _ _ _ _ _ hw) mo_X9_readNumber ml_X9_57 (by rfl) rfl rfl (as := [(0, 1), (0, 64)]) rfl rfl rfl rfl rfl ⟨Nat.zero_le _, Nat.zero_le _⟩ dX9_readFlow_89 (fun x23 h22 hw => ?_)
    refine V.istore_n hc dX9_readFlow_92 rfl rfl (lo' := [(19, o), (0, x23), (0, l2), (0, l3), (0, h 9 o 6)]) rfl ?_
    exact tX9_readFlow_93 hc hr  hw
theorem tX9_readFlow_57 {G : GG} {p : Program} {l : Launch} {e : Jvm.Env} {s : State} {m : MethodId} {args : Array Value} {below : List Frame} {meth : Method} {c : Code} {P : Int → HP → Prop} (hc : VC G p (rmD 12 0) s m args meth c RX9 cX9_readFlow 5 12) (hr : meth.sig.returnType = some .int) {o : Int} {l1 : Int} {l2 : Int} {h : HP} (hw : wX9_readFlow_57 o l1 l2 P h) : V G p l e (rmD 12 0) s m args below meth c (MQ below (QI G P) args s 0 0 (va_Aof G)) 5 57 [(19, o), (0, l1), (0, l2), (1, 0), (1, 0)] [] h 0 := by
  refine V.aload_n (t := 9) hc dX9_readFlow_57 rfl rfl ?_
  refine V.gI hc gI_X9_24 rfl dX9_readFlow_58 ?_
  refine V.istore_n hc dX9_readFlow_61 rfl rfl (lo' := [(19, o), (0, l1), (0, l2), (0, h 9 o 6), (1, 0)]) rfl ?_
  refine V.iload_n hc dX9_readFlow_62 rfl rfl ?_
  obtain ⟨g9, hw⟩ := hw
  refine V.if_ne hc (tgt := 75) dX9_readFlow_63 (by decide) g9 (fun c10 => ?_) (fun c10 => ?_)
  · replace hw := hw.1 c10
    exact tX9_readFlow_75 hc hr  hw
  · replace hw := hw.2 c10
    refine V.aload_n (t := 9) hc dX9_readFlow_66 rfl rfl ?_
    refine V.iconst hc dX9_readFlow_67 ?_
    refine V.sipush hc dX9_readFlow_68 (by decide) ?_
    refine V.callVI hc (qX9_readNumber G l _ _ _ _ _ hw) mo_X9_readNumber ml_X9_57 (by rfl) rfl rfl (as := [(0, 0), (0, 199)]) rfl rfl rfl rfl rfl ⟨Nat.zero_le _, Nat.zero_le _⟩ dX9_readFlow_71 (fun x25 h24 hw => ?_)
    refine V.istore_n hc dX9_readFlow_74 rfl rfl (lo' := [(19, o), (0, x25), (0, l2), (0, h 9 o 6), (1, 0)]) rfl ?_
    exact tX9_readFlow_75 hc hr  hw
theorem tX9_readFlow_44 {G : GG} {p : Program} {l : Launch} {e : Jvm.Env} {s : State} {m : MethodId} {args : Array Value} {below : List Frame} {meth : Method} {c : Code} {P : Int → HP → Prop} (hc : VC G p (rmD 12 0) s m args meth c RX9 cX9_readFlow 5 12) (hr : meth.sig.returnType = some .int) {o : Int} {l1 : Int} {l2 : Int} {h : HP} (hw : wX9_readFlow_44 o l1 l2 P h) : V G p l e (rmD 12 0) s m args below meth c (MQ below (QI G P) args s 0 0 (va_Aof G)) 5 44 [(19, o), (0, l1), (0, l2), (1, 0), (1, 0)] [] h 0 := by
  refine V.iload_n hc dX9_readFlow_44 rfl rfl ?_
  obtain ⟨g7, hw⟩ := hw
  refine V.if_ne hc (tgt := 57) dX9_readFlow_45 (by decide) g7 (fun c8 => ?_) (fun c8 => ?_)
  · replace hw := hw.1 c8
    exact tX9_readFlow_57 hc hr  hw
  · replace hw := hw.2 c8
    refine V.aload_n (t := 9) hc dX9_readFlow_48 rfl rfl ?_
    refine V.iconst hc dX9_readFlow_49 ?_
    refine V.sipush hc dX9_readFlow_50 (by decide) ?_
    refine V.callVI hc (qX9_readNumber G l _ _ _ _ _ hw) mo_X9_readNumber ml_X9_57 (by rfl) rfl rfl (as := [(0, 1), (0, 200)]) rfl rfl rfl rfl rfl ⟨Nat.zero_le _, Nat.zero_le _⟩ dX9_readFlow_53 (fun x27 h26 hw => ?_)
    refine V.istore_n hc dX9_readFlow_56 rfl rfl (lo' := [(19, o), (0, x27), (0, l2), (1, 0), (1, 0)]) rfl ?_
    exact tX9_readFlow_57 hc hr  hw
theorem qX9_readFlow (G : GG) (l : Launch) (o : Int) (h : HP) (P : Int → HP → Prop) (hw : wX9_readFlow o h P) : CnI l G yX9_readFlow cX9_readFlow 5 (some .int) 12 [(19, o)] h P := by
  refine CnI.of (lo := [(19, o), (1, 0), (1, 0), (1, 0), (1, 0)]) (by decide) rfl rfl rfl ?_
  intro p e s m args below meth c hc hr
  have hc : VC G p (rmD 12 0) s m args meth c RX9 cX9_readFlow 5 12 := hc
  refine V.aload_n (t := 9) hc dX9_readFlow_0 rfl rfl ?_
  refine V.gR hc gR_X9_31 (i' := 2) rfl dX9_readFlow_1 ?_
  refine V.gI hc gI_X9_82 rfl dX9_readFlow_4 ?_
  refine V.bipush hc dX9_readFlow_7 (by decide) ?_
  obtain ⟨g1, hw⟩ := hw
  refine V.icmp_lt hc (tgt := 14) dX9_readFlow_9 (by decide) g1 (by omega) (fun c2 => ?_) (fun c2 => ?_)
  · replace hw := hw.1 c2
    refine V.aload_n (t := 9) hc dX9_readFlow_14 rfl rfl ?_
    refine V.iconst hc dX9_readFlow_15 ?_
    refine V.bipush hc dX9_readFlow_16 (by decide) ?_
    refine V.callVI hc (qX9_readNumber G l _ _ _ _ _ hw) mo_X9_readNumber ml_X9_57 (by rfl) rfl rfl (as := [(0, 0), (0, 11)]) rfl rfl rfl rfl rfl ⟨Nat.zero_le _, Nat.zero_le _⟩ dX9_readFlow_18 (fun x4 h3 hw => ?_)
    refine V.istore_n hc dX9_readFlow_21 rfl rfl (lo' := [(19, o), (0, x4), (1, 0), (1, 0), (1, 0)]) rfl ?_
    refine V.aload_n (t := 9) hc dX9_readFlow_22 rfl rfl ?_
    refine V.gI hc gI_X9_24 rfl dX9_readFlow_23 ?_
    refine V.istore_n hc dX9_readFlow_26 rfl rfl (lo' := [(19, o), (0, x4), (0, h3 9 o 6), (1, 0), (1, 0)]) rfl ?_
    refine V.iload_n hc dX9_readFlow_27 rfl rfl ?_
    obtain ⟨g5, hw⟩ := hw
    refine V.if_ne hc (tgt := 44) dX9_readFlow_28 (by decide) g5 (fun c6 => ?_) (fun c6 => ?_)
    · replace hw := hw.1 c6
      exact tX9_readFlow_44 hc hr  hw
    · replace hw := hw.2 c6
      refine V.aload_n (t := 9) hc dX9_readFlow_31 rfl rfl ?_
      refine V.gR hc gR_X9_31 (i' := 2) rfl dX9_readFlow_32 ?_
      refine V.iload_n hc dX9_readFlow_35 rfl rfl ?_
      refine V.callVI hc (qX8_hasLeaf G l _ _ _ _ hw) mo_X8_hasLeaf ml_X9_85 (by rfl) rfl rfl (as := [(0, h3 9 o 6)]) rfl rfl rfl rfl rfl ⟨Nat.zero_le _, Nat.zero_le _⟩ dX9_readFlow_36 (fun x29 h28 hw => ?_)
      obtain ⟨q32, hw⟩ := hw
      have kJ33 : ∀ t31 : Int, ((¬ x29 = 0 → t31 = x4) ∧ (x29 = 0 → t31 = 3)) → V G p l e (rmD 12 0) s m args below meth c (MQ below (QI G P) args s 0 0 (va_Aof G)) 5 44 [(19, o), (0, t31), (0, h3 9 o 6), (1, 0), (1, 0)] [] h28 0 := by
        intro t31 he
        replace hw := hw t31 he
        clear he
        exact tX9_readFlow_44 hc hr  hw
      have g30 := q32
      refine V.if_ne hc (tgt := 44) dX9_readFlow_39 (by decide) g30 (fun c34 => ?_) (fun c34 => ?_)
      · exact kJ33 _ ⟨fun _ => rfl, (fun q => absurd q c34)⟩
      · refine V.iconst hc dX9_readFlow_42 ?_
        refine V.istore_n hc dX9_readFlow_43 rfl rfl (lo' := [(19, o), (0, 3), (0, h3 9 o 6), (1, 0), (1, 0)]) rfl ?_
        exact kJ33 _ ⟨(fun q => absurd c34 q), fun _ => rfl⟩
  · replace hw := hw.2 c2
    refine V.iconst hc dX9_readFlow_12 ?_
    exact V.iret hc hr dX9_readFlow_13 hw
