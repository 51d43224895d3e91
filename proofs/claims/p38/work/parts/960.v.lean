theorem tX1_copyFrom_94 {G : GG} {p : Program} {l : Launch} {e : Jvm.Env} {s : State} {m : MethodId} {args : Array Value} {below : List Frame} {meth : Method} {c : Code} {P : HP → Prop} (hc : VC G p (rmD 2 0) s m args meth c RX1 cX1_copyFrom 7 2) (hr : meth.sig.returnType = none) {o : Int} {o1 : Int} {a2 : Int} {l3 : Int} {l4 : Int} {l5 : Int} {K143 : HP → Prop} (hK143 : ∀  (h : HP), K143  h → V G p l e (rmD 2 0) s m args below meth c (MQ below (QV G P) args s 0 0 (va_Aof G)) 7 143 [(11, o), (11, o1), (1, 0), (0, l3), (0, l4), (1, 0), (1, 0)] [] h 0) : ∀ (f : Nat) (l6 : Int) (h : HP), wX1_copyFrom_94 o o1 a2 l3 l4 l5 K143 f l6 h → V G p l e (rmD 2 0) s m args below meth c (MQ below (QV G P) args s 0 0 (va_Aof G)) 7 94 [(11, o), (11, o1), (1, 0), (0, l3), (0, l4), (0, l5), (0, l6)] [] h 0 := by
  intro f
  induction f with
  | zero =>
    intro l6 h hw
    exact hw.elim
  | succ f ih =>
    intro l6 h hw
    refine V.iload hc dX1_copyFrom_94 rfl ?_
    refine V.iload hc dX1_copyFrom_96 rfl ?_
    refine V.aload_n (t := 1) hc dX1_copyFrom_98 rfl rfl ?_
    refine V.gR hc gR_X1_24 (i' := o) rfl dX1_copyFrom_99 ?_
    refine V.iload hc dX1_copyFrom_102 rfl ?_
    obtain ⟨g14, hw⟩ := hw
    refine V.ald hc ak_17 g14 dX1_copyFrom_104 ?_
    refine V.iadd hc dX1_copyFrom_105 ?_
    obtain ⟨g15, hw⟩ := hw
    obtain ⟨g16, hw⟩ := hw
    refine V.icmp_ge hc (tgt := 143) dX1_copyFrom_106 (by decide) g15 g16 (fun c17 => ?_) (fun c17 => ?_)
    · replace hw := hw.1 c17
      refine V.drop (lo' := [(11, o), (11, o1), (1, 0), (0, l3), (0, l4), (1, 0), (1, 0)]) ⟨Or.inr rfl, Or.inr rfl, Or.inr rfl, Or.inr rfl, Or.inr rfl, Or.inl rfl, Or.inl rfl, trivial⟩ ?_
      exact hK143 _ hw
    · replace hw := hw.2 c17
      refine V.aload_n (t := 1) hc dX1_copyFrom_109 rfl rfl ?_
      refine V.gR hc gR_X1_27 (i' := o) rfl dX1_copyFrom_110 ?_
      refine V.iload hc dX1_copyFrom_113 rfl ?_
      refine V.aload_n (t := 1) hc dX1_copyFrom_115 rfl rfl ?_
      refine V.gR hc gR_X1_27 (i' := o1) rfl dX1_copyFrom_116 ?_
      refine V.iload hc dX1_copyFrom_119 rfl ?_
      obtain ⟨g18, hw⟩ := hw
      refine V.ald hc ak_18 g18 dX1_copyFrom_121 ?_
      obtain ⟨g20, hw⟩ := hw
      refine V.ast hc ak_18 g20 dX1_copyFrom_122 (fun h19 e => ?_)
      replace hw := hw h19 e
      clear e
      refine V.aload_n (t := 1) hc dX1_copyFrom_123 rfl rfl ?_
      refine V.gR hc gR_X1_30 (i' := o) rfl dX1_copyFrom_124 ?_
      refine V.iload hc dX1_copyFrom_127 rfl ?_
      refine V.aload_n (t := 1) hc dX1_copyFrom_129 rfl rfl ?_
      refine V.gR hc gR_X1_30 (i' := o1) rfl dX1_copyFrom_130 ?_
      refine V.iload hc dX1_copyFrom_133 rfl ?_
      obtain ⟨g21, hw⟩ := hw
      refine V.ald hc ak_19 g21 dX1_copyFrom_135 ?_
      obtain ⟨g23, hw⟩ := hw
      refine V.ast hc ak_19 g23 dX1_copyFrom_136 (fun h22 e => ?_)
      replace hw := hw h22 e
      clear e
      refine V.iinc hc dX1_copyFrom_137 rfl rfl (lo' := [(11, o), (11, o1), (1, 0), (0, l3), (0, l4), (0, l5), (0, l6 + 1)]) rfl ?_
      refine V.goto hc (tgt := 94) dX1_copyFrom_140 (by decide) ?_
      exact ih _ _ hw
theorem tX1_copyFrom_77 {G : GG} {p : Program} {l : Launch} {e : Jvm.Env} {s : State} {m : MethodId} {args : Array Value} {below : List Frame} {meth : Method} {c : Code} {P : HP → Prop} (hc : VC G p (rmD 2 0) s m args meth c RX1 cX1_copyFrom 7 2) (hr : meth.sig.returnType = none) {o : Int} {o1 : Int} {a2 : Int} {l3 : Int} {K149 : HP → Prop} (hK149 : ∀  (h : HP), K149  h → V G p l e (rmD 2 0) s m args below meth c (MQ below (QV G P) args s 0 0 (va_Aof G)) 7 149 [(1, 0), (1, 0), (1, 0), (1, 0), (1, 0), (1, 0), (1, 0)] [] h 0) : ∀ (f : Nat) (l4 : Int) (h : HP), wX1_copyFrom_77 o o1 a2 l3 K149 f l4 h → V G p l e (rmD 2 0) s m args below meth c (MQ below (QV G P) args s 0 0 (va_Aof G)) 7 77 [(11, o), (11, o1), (1, 0), (0, l3), (0, l4), (1, 0), (1, 0)] [] h 0 := by
  intro f
  induction f with
  | zero =>
    intro l4 h hw
    exact hw.elim
  | succ f ih =>
    intro l4 h hw
    refine V.iload hc dX1_copyFrom_77 rfl ?_
    refine V.iload_n hc dX1_copyFrom_79 rfl rfl ?_
    obtain ⟨g11, hw⟩ := hw
    obtain ⟨g12, hw⟩ := hw
    refine V.icmp_ge hc (tgt := 149) dX1_copyFrom_80 (by decide) g11 g12 (fun c13 => ?_) (fun c13 => ?_)
    · replace hw := hw.1 c13
      refine V.drop (lo' := [(1, 0), (1, 0), (1, 0), (1, 0), (1, 0), (1, 0), (1, 0)]) ⟨Or.inl rfl, Or.inl rfl, Or.inr rfl, Or.inl rfl, Or.inl rfl, Or.inr rfl, Or.inr rfl, trivial⟩ ?_
      exact hK149 _ hw
    · replace hw := hw.2 c13
      refine V.iload hc dX1_copyFrom_83 rfl ?_
      refine V.bipush hc dX1_copyFrom_85 (by decide) ?_
      refine V.imul hc dX1_copyFrom_87 ?_
      refine V.istore hc dX1_copyFrom_88 rfl (lo' := [(11, o), (11, o1), (1, 0), (0, l3), (0, l4), (0, l4 * 32), (1, 0)]) rfl ?_
      refine V.iload hc dX1_copyFrom_90 rfl ?_
      refine V.istore hc dX1_copyFrom_92 rfl (lo' := [(11, o), (11, o1), (1, 0), (0, l3), (0, l4), (0, l4 * 32), (0, l4 * 32)]) rfl ?_
      obtain ⟨f24, hw⟩ := hw
      refine tX1_copyFrom_94 hc hr ?_ f24 _ _ hw
      · intro h25 hw
        refine V.iinc hc dX1_copyFrom_143 rfl rfl (lo' := [(11, o), (11, o1), (1, 0), (0, l3), (0, l4 + 1), (1, 0), (1, 0)]) rfl ?_
        refine V.goto hc (tgt := 77) dX1_copyFrom_146 (by decide) ?_
        exact ih _ _ hw
theorem qX1_copyFrom (G : GG) (l : Launch) (o : Int) (o1 : Int) (a2 : Int) (h : HP) (P : HP → Prop) (hw : wX1_copyFrom o o1 a2 h P) : CnV l G yX1_copyFrom cX1_copyFrom 7 2 [(11, o), (11, o1), (0, a2)] h P := by
  refine CnV.of (lo := [(11, o), (11, o1), (0, a2), (1, 0), (1, 0), (1, 0), (1, 0)]) (by decide) rfl rfl rfl ?_
  intro p e s m args below meth c hc hr
  have hc : VC G p (rmD 2 0) s m args meth c RX1 cX1_copyFrom 7 2 := hc
  refine V.iload_n hc dX1_copyFrom_0 rfl rfl ?_
  refine V.iconst hc dX1_copyFrom_1 ?_
  refine V.imul hc dX1_copyFrom_2 ?_
  refine V.istore_n hc dX1_copyFrom_3 rfl rfl (lo' := [(11, o), (11, o1), (0, a2), (0, a2 * 3), (1, 0), (1, 0), (1, 0)]) rfl ?_
  refine V.aload_n (t := 1) hc dX1_copyFrom_4 rfl rfl ?_
  refine V.gR hc gR_X1_11 (i' := o1) rfl dX1_copyFrom_5 ?_
  refine V.iconst hc dX1_copyFrom_8 ?_
  refine V.aload_n (t := 1) hc dX1_copyFrom_9 rfl rfl ?_
  refine V.gR hc gR_X1_11 (i' := o) rfl dX1_copyFrom_10 ?_
  refine V.iconst hc dX1_copyFrom_13 ?_
  refine V.iload_n hc dX1_copyFrom_14 rfl rfl ?_
  obtain ⟨g2, hw⟩ := hw
  refine V.acp hc ml_X1_37 rfl ak_13 ak_13 g2 dX1_copyFrom_15 (fun h1 e => ?_)
  replace hw := hw h1 e
  clear e
  refine V.aload_n (t := 1) hc dX1_copyFrom_18 rfl rfl ?_
  refine V.gR hc gR_X1_15 (i' := o1) rfl dX1_copyFrom_19 ?_
  refine V.iconst hc dX1_copyFrom_22 ?_
  refine V.aload_n (t := 1) hc dX1_copyFrom_23 rfl rfl ?_
  refine V.gR hc gR_X1_15 (i' := o) rfl dX1_copyFrom_24 ?_
  refine V.iconst hc dX1_copyFrom_27 ?_
  refine V.iload_n hc dX1_copyFrom_28 rfl rfl ?_
  obtain ⟨g4, hw⟩ := hw
  refine V.acp hc ml_X1_37 rfl ak_14 ak_14 g4 dX1_copyFrom_29 (fun h3 e => ?_)
  replace hw := hw h3 e
  clear e
  refine V.aload_n (t := 1) hc dX1_copyFrom_32 rfl rfl ?_
  refine V.gR hc gR_X1_18 (i' := o1) rfl dX1_copyFrom_33 ?_
  refine V.iconst hc dX1_copyFrom_36 ?_
  refine V.aload_n (t := 1) hc dX1_copyFrom_37 rfl rfl ?_
  refine V.gR hc gR_X1_18 (i' := o) rfl dX1_copyFrom_38 ?_
  refine V.iconst hc dX1_copyFrom_41 ?_
  refine V.iload_n hc dX1_copyFrom_42 rfl rfl ?_
  obtain ⟨g6, hw⟩ := hw
  refine V.acp hc ml_X1_37 rfl ak_15 ak_15 g6 dX1_copyFrom_43 (fun h5 e => ?_)
  replace hw := hw h5 e
  clear e
  refine V.aload_n (t := 1) hc dX1_copyFrom_46 rfl rfl ?_
  refine V.gR hc gR_X1_21 (i' := o1) rfl dX1_copyFrom_47 ?_
  refine V.iconst hc dX1_copyFrom_50 ?_
  refine V.aload_n (t := 1) hc dX1_copyFrom_51 rfl rfl ?_
  refine V.gR hc gR_X1_21 (i' := o) rfl dX1_copyFrom_52 ?_
  refine V.iconst hc dX1_copyFrom_55 ?_
  refine V.iload_n hc dX1_copyFrom_56 rfl rfl ?_
  obtain ⟨g8, hw⟩ := hw
  refine V.acp hc ml_X1_37 rfl ak_16 ak_16 g8 dX1_copyFrom_57 (fun h7 e => ?_)
  replace hw := hw h7 e
  clear e
  refine V.aload_n (t := 1) hc dX1_copyFrom_60 rfl rfl ?_
  refine V.gR hc gR_X1_24 (i' := o1) rfl dX1_copyFrom_61 ?_
  refine V.iconst hc dX1_copyFrom_64 ?_
  refine V.aload_n (t := 1) hc dX1_copyFrom_65 rfl rfl ?_
  refine V.gR hc gR_X1_24 (i' := o) rfl dX1_copyFrom_66 ?_
  refine V.iconst hc dX1_copyFrom_69 ?_
  refine V.iload_n hc dX1_copyFrom_70 rfl rfl ?_
  obtain ⟨g10, hw⟩ := hw
  refine V.acp hc ml_X1_37 rfl ak_17 ak_17 g10 dX1_copyFrom_71 (fun h9 e => ?_)
  replace hw := hw h9 e
  clear e
  refine V.iconst hc dX1_copyFrom_74 ?_
  refine V.istore hc dX1_copyFrom_75 rfl (lo' := [(11, o), (11, o1), (0, a2), (0, a2 * 3), (0, 0), (1, 0), (1, 0)]) rfl ?_
  obtain ⟨f26, hw⟩ := hw
  refine V.drop (lo' := [(11, o), (11, o1), (1, 0), (0, a2 * 3), (0, 0), (1, 0), (1, 0)]) ⟨Or.inr rfl, Or.inr rfl, Or.inl rfl, Or.inr rfl, Or.inr rfl, Or.inr rfl, Or.inr rfl, trivial⟩ ?_
  refine tX1_copyFrom_77 hc hr ?_ f26 _ _ hw
  · intro h27 hw
    exact V.vret hc hr dX1_copyFrom_149 hw
theorem qX6_copyFrom (G : GG) (l : Launch) (o : Int) (o1 : Int) (h : HP) (P : HP → Prop) (hw : wX6_copyFrom o o1 h P) : CnV l G yX6_copyFrom cX6_copyFrom 3 3 [(16, o), (16, o1)] h P := by
  refine CnV.of (lo := [(16, o), (16, o1), (1, 0)]) (by decide) rfl rfl rfl ?_
  intro p e s m args below meth c hc hr
  have hc : VC G p (rmD 3 0) s m args meth c RX6 cX6_copyFrom 3 3 := hc
  refine V.aload_n (t := 6) hc dX6_copyFrom_0 rfl rfl ?_
  refine V.gR hc gR_X6_68 (i' := 1) rfl dX6_copyFrom_1 ?_
  refine V.gI hc gI_X6_96 rfl dX6_copyFrom_4 ?_
  refine V.istore_n hc dX6_copyFrom_7 rfl rfl (lo' := [(16, o), (16, o1), (0, h 8 1 0)]) rfl ?_
  refine V.aload_n (t := 6) hc dX6_copyFrom_8 rfl rfl ?_
  refine V.aload_n (t := 6) hc dX6_copyFrom_9 rfl rfl ?_
  refine V.gI hc gI_X6_9 rfl dX6_copyFrom_10 ?_
  refine V.pI hc pI_X6_9 rfl dX6_copyFrom_13 (fun h1 e => ?_)
  replace hw := hw h1 e
  clear e
  refine V.aload_n (t := 6) hc dX6_copyFrom_16 rfl rfl ?_
  refine V.aload_n (t := 6) hc dX6_copyFrom_17 rfl rfl ?_
  refine V.gI hc gI_X6_15 rfl dX6_copyFrom_18 ?_
  refine V.pI hc pI_X6_15 rfl dX6_copyFrom_21 (fun h2 e => ?_)
  replace hw := hw h2 e
  clear e
  refine V.aload_n (t := 6) hc dX6_copyFrom_24 rfl rfl ?_
  refine V.aload_n (t := 6) hc dX6_copyFrom_25 rfl rfl ?_
  refine V.gI hc gI_X6_18 rfl dX6_copyFrom_26 ?_
  refine V.pI hc pI_X6_18 rfl dX6_copyFrom_29 (fun h3 e => ?_)
  replace hw := hw h3 e
  clear e
  refine V.aload_n (t := 6) hc dX6_copyFrom_32 rfl rfl ?_
  refine V.aload_n (t := 6) hc dX6_copyFrom_33 rfl rfl ?_
  refine V.gI hc gI_X6_21 rfl dX6_copyFrom_34 ?_
  refine V.pI hc pI_X6_21 rfl dX6_copyFrom_37 (fun h4 e => ?_)
  replace hw := hw h4 e
  clear e
  refine V.aload_n (t := 6) hc dX6_copyFrom_40 rfl rfl ?_
  refine V.aload_n (t := 6) hc dX6_copyFrom_41 rfl rfl ?_
  refine V.gI hc gI_X6_24 rfl dX6_copyFrom_42 ?_
  refine V.pI hc pI_X6_24 rfl dX6_copyFrom_45 (fun h5 e => ?_)
  replace hw := hw h5 e
  clear e
  refine V.aload_n (t := 6) hc dX6_copyFrom_48 rfl rfl ?_
  refine V.aload_n (t := 6) hc dX6_copyFrom_49 rfl rfl ?_
  refine V.gI hc gI_X6_27 rfl dX6_copyFrom_50 ?_
  refine V.pI hc pI_X6_27 rfl dX6_copyFrom_53 (fun h6 e => ?_)
  replace hw := hw h6 e
  clear e
  refine V.aload_n (t := 6) hc dX6_copyFrom_56 rfl rfl ?_
  refine V.gR hc gR_X6_30 (i' := o1) rfl dX6_copyFrom_57 ?_
  refine V.iconst hc dX6_copyFrom_60 ?_
  refine V.aload_n (t := 6) hc dX6_copyFrom_61 rfl rfl ?_
  refine V.gR hc gR_X6_30 (i' := o) rfl dX6_copyFrom_62 ?_
  refine V.iconst hc dX6_copyFrom_65 ?_
  refine V.iload_n hc dX6_copyFrom_66 rfl rfl ?_
  obtain ⟨g8, hw⟩ := hw
  refine V.acp hc ml_X6_83 rfl ak_24 ak_24 g8 dX6_copyFrom_67 (fun h7 e => ?_)
  replace hw := hw h7 e
  clear e
  refine V.aload_n (t := 6) hc dX6_copyFrom_70 rfl rfl ?_
  refine V.gR hc gR_X6_34 (i' := o1) rfl dX6_copyFrom_71 ?_
  refine V.iconst hc dX6_copyFrom_74 ?_
  refine V.aload_n (t := 6) hc dX6_copyFrom_75 rfl rfl ?_
  refine V.gR hc gR_X6_34 (i' := o) rfl dX6_copyFrom_76 ?_
  refine V.iconst hc dX6_copyFrom_79 ?_
  refine V.iload_n hc dX6_copyFrom_80 rfl rfl ?_
  obtain ⟨g10, hw⟩ := hw
  refine V.acp hc ml_X6_83 rfl ak_25 ak_25 g10 dX6_copyFrom_81 (fun h9 e => ?_)
  replace hw := hw h9 e
  clear e
  refine V.aload_n (t := 6) hc dX6_copyFrom_84 rfl rfl ?_
  refine V.gR hc gR_X6_37 (i' := o1) rfl dX6_copyFrom_85 ?_
  refine V.iconst hc dX6_copyFrom_88 ?_
  refine V.aload_n (t := 6) hc dX6_copyFrom_89 rfl rfl ?_
  refine V.gR hc gR_X6_37 (i' := o) rfl dX6_copyFrom_90 ?_
  refine V.iconst hc dX6_copyFrom_93 ?_
  refine V.iload_n hc dX6_copyFrom_94 rfl rfl ?_
  obtain ⟨g12, hw⟩ := hw
  refine V.acp hc ml_X6_83 rfl ak_26 ak_26 g12 dX6_copyFrom_95 (fun h11 e => ?_)
  replace hw := hw h11 e
  clear e
  refine V.aload_n (t := 6) hc dX6_copyFrom_98 rfl rfl ?_
  refine V.gR hc gR_X6_40 (i' := o1) rfl dX6_copyFrom_99 ?_
  refine V.iconst hc dX6_copyFrom_102 ?_
  refine V.aload_n (t := 6) hc dX6_copyFrom_103 rfl rfl ?_
  refine V.gR hc gR_X6_40 (i' := o) rfl dX6_copyFrom_104 ?_
  refine V.iconst hc dX6_copyFrom_107 ?_
  refine V.aload_n (t := 6) hc dX6_copyFrom_108 rfl rfl ?_
  refine V.gR hc gR_X6_40 (i' := o) rfl dX6_copyFrom_109 ?_
  refine V.aln hc ak_27 dX6_copyFrom_112 ?_
  obtain ⟨g14, hw⟩ := hw
  refine V.acp hc ml_X6_83 rfl ak_27 ak_27 g14 dX6_copyFrom_113 (fun h13 e => ?_)
  replace hw := hw h13 e
  clear e
  refine V.aload_n (t := 6) hc dX6_copyFrom_116 rfl rfl ?_
  refine V.gR hc gR_X6_43 (i' := o1) rfl dX6_copyFrom_117 ?_
  refine V.iconst hc dX6_copyFrom_120 ?_
  refine V.aload_n (t := 6) hc dX6_copyFrom_121 rfl rfl ?_
  refine V.gR hc gR_X6_43 (i' := o) rfl dX6_copyFrom_122 ?_
  refine V.iconst hc dX6_copyFrom_125 ?_
  refine V.iload_n hc dX6_copyFrom_126 rfl rfl ?_
  obtain ⟨g16, hw⟩ := hw
  refine V.acp hc ml_X6_83 rfl ak_28 ak_28 g16 dX6_copyFrom_127 (fun h15 e => ?_)
  replace hw := hw h15 e
  clear e
  refine V.aload_n (t := 6) hc dX6_copyFrom_130 rfl rfl ?_
  refine V.gR hc gR_X6_46 (i' := o1) rfl dX6_copyFrom_131 ?_
  refine V.iconst hc dX6_copyFrom_134 ?_
  refine V.aload_n (t := 6) hc dX6_copyFrom_135 rfl rfl ?_
  refine V.gR hc gR_X6_46 (i' := o) rfl dX6_copyFrom_136 ?_
  refine V.iconst hc dX6_copyFrom_139 ?_
  refine V.aload_n (t := 6) hc dX6_copyFrom_140 rfl rfl ?_
  refine V.gR hc gR_X6_46 (i' := o) rfl dX6_copyFrom_141 ?_
  refine V.aln hc ak_29 dX6_copyFrom_144 ?_
  obtain ⟨g18, hw⟩ := hw
  refine V.acp hc ml_X6_83 rfl ak_29 ak_29 g18 dX6_copyFrom_145 (fun h17 e => ?_)
  replace hw := hw h17 e
  clear e
  refine V.aload_n (t := 6) hc dX6_copyFrom_148 rfl rfl ?_
  refine V.gR hc gR_X6_49 (i' := o1) rfl dX6_copyFrom_149 ?_
  refine V.iconst hc dX6_copyFrom_152 ?_
  refine V.aload_n (t := 6) hc dX6_copyFrom_153 rfl rfl ?_
  refine V.gR hc gR_X6_49 (i' := o) rfl dX6_copyFrom_154 ?_
  refine V.iconst hc dX6_copyFrom_157 ?_
  refine V.iload_n hc dX6_copyFrom_158 rfl rfl ?_
  refine V.bipush hc dX6_copyFrom_159 (by decide) ?_
  refine V.imul hc dX6_copyFrom_161 ?_
  obtain ⟨g20, hw⟩ := hw
  refine V.acp hc ml_X6_83 rfl ak_30 ak_30 g20 dX6_copyFrom_162 (fun h19 e => ?_)
  replace hw := hw h19 e
  clear e
  refine V.aload_n (t := 6) hc dX6_copyFrom_165 rfl rfl ?_
  refine V.gR hc gR_X6_52 (i' := o1) rfl dX6_copyFrom_166 ?_
  refine V.iconst hc dX6_copyFrom_169 ?_
  refine V.aload_n (t := 6) hc dX6_copyFrom_170 rfl rfl ?_
  refine V.gR hc gR_X6_52 (i' := o) rfl dX6_copyFrom_171 ?_
  refine V.iconst hc dX6_copyFrom_174 ?_
  refine V.iload_n hc dX6_copyFrom_175 rfl rfl ?_
  obtain ⟨g22, hw⟩ := hw
  refine V.acp hc ml_X6_83 rfl ak_31 ak_31 g22 dX6_copyFrom_176 (fun h21 e => ?_)
  replace hw := hw h21 e
  clear e
  refine V.aload_n (t := 6) hc dX6_copyFrom_179 rfl rfl ?_
  refine V.gR hc gR_X6_55 (i' := o1) rfl dX6_copyFrom_180 ?_
  refine V.iconst hc dX6_copyFrom_183 ?_
  refine V.aload_n (t := 6) hc dX6_copyFrom_184 rfl rfl ?_
  refine V.gR hc gR_X6_55 (i' := o) rfl dX6_copyFrom_185 ?_
  refine V.iconst hc dX6_copyFrom_188 ?_
  refine V.aload_n (t := 6) hc dX6_copyFrom_189 rfl rfl ?_
  refine V.gR hc gR_X6_68 (i' := 1) rfl dX6_copyFrom_190 ?_
  refine V.gI hc gI_X6_99 rfl dX6_copyFrom_193 ?_
  obtain ⟨g24, hw⟩ := hw
  refine V.acp hc ml_X6_83 rfl ak_32 ak_32 g24 dX6_copyFrom_196 (fun h23 e => ?_)
  replace hw := hw h23 e
  clear e
  refine V.aload_n (t := 6) hc dX6_copyFrom_199 rfl rfl ?_
  refine V.gR hc gR_X6_61 (i' := o) rfl dX6_copyFrom_200 ?_
  refine V.aload_n (t := 6) hc dX6_copyFrom_203 rfl rfl ?_
  refine V.gR hc gR_X6_61 (i' := o1) rfl dX6_copyFrom_204 ?_
  refine V.iload_n hc dX6_copyFrom_207 rfl rfl ?_
  refine V.callVV hc (qX1_copyFrom G l _ _ _ _ _ hw) mo_X1_copyFrom ml_X6_92 (by rfl) rfl rfl (as := [(11, o1), (0, h 8 1 0)]) rfl rfl rfl rfl rfl ⟨Nat.zero_le _, Nat.zero_le _⟩ dX6_copyFrom_208 (fun h25 hw => ?_)
  exact V.vret hc hr dX6_copyFrom_211 hw
theorem qX0_draw (G : GG) (l : Launch) (o : Int) (a1 : Int) (h : HP) (P : Int → HP → Prop) (hw : wX0_draw o a1 h P) : CnI l G yX0_draw cX0_draw 2 (some .int) 1 [(10, o), (0, a1)] h P := by
  refine CnI.of (lo := [(10, o), (0, a1)]) (by decide) rfl rfl rfl ?_
  intro p e s m args below meth c hc hr
  have hc : VC G p (rmD 1 0) s m args meth c RX0 cX0_draw 2 1 := hc
  refine V.aload_n (t := 0) hc dX0_draw_0 rfl rfl ?_
  refine V.aload_n (t := 0) hc dX0_draw_1 rfl rfl ?_
  refine V.gI hc gI_X0_9 rfl dX0_draw_2 ?_
  refine V.ldc hc (x := 1103515245) kl_X0_100 dX0_draw_5 ?_
  refine V.imul hc dX0_draw_7 ?_
  refine V.sipush hc dX0_draw_8 (by decide) ?_
  refine V.iadd hc dX0_draw_11 ?_
  refine V.pI hc pI_X0_9 rfl dX0_draw_12 (fun h1 e => ?_)
  replace hw := hw h1 e
  clear e
  refine V.iload_n hc dX0_draw_15 rfl rfl ?_
  obtain ⟨q6, hw⟩ := hw
  have kJ7 : ∀ t5 : Int, ((a1 ≤ 0 → t5 = 0) ∧ (¬ a1 ≤ 0 → t5 = (bAnd (bUshr (h1 0 o 3) 16) 32767) % a1)) → V G p l e (rmD 1 0) s m args below meth c (MQ below (QI G P) args s 0 0 (va_Aof G)) 2 36 [(1, 0), (1, 0)] [(0, t5)] h1 0 := by
    intro t5 he
    replace hw := hw t5 he
    clear he
    exact V.iret hc hr dX0_draw_36 hw
  obtain ⟨g2, q8⟩ := q6
  refine V.if_le hc (tgt := 35) dX0_draw_16 (by decide) g2 (fun c9 => ?_) (fun c9 => ?_)
  · refine V.iconst hc dX0_draw_35 ?_
    refine V.drop (lo' := [(1, 0), (1, 0)]) ⟨Or.inl rfl, Or.inl rfl, trivial⟩ ?_
    exact kJ7 _ ⟨fun _ => rfl, (fun q => absurd c9 q)⟩
  · have q10 := q8 c9
    obtain ⟨g3, g4⟩ := q10
    refine V.aload_n (t := 0) hc dX0_draw_19 rfl rfl ?_
    refine V.gI hc gI_X0_9 rfl dX0_draw_20 ?_
    refine V.bipush hc dX0_draw_23 (by decide) ?_
    refine V.iushr hc dX0_draw_25 ?_
    refine V.sipush hc dX0_draw_26 (by decide) ?_
    refine V.iand hc dX0_draw_29 ?_
    refine V.iload_n hc dX0_draw_30 rfl rfl ?_
    refine V.irem hc g3 g4 dX0_draw_31 ?_
    refine V.goto hc (tgt := 36) dX0_draw_32 (by decide) ?_
    refine V.drop (lo' := [(1, 0), (1, 0)]) ⟨Or.inl rfl, Or.inl rfl, trivial⟩ ?_
    exact kJ7 _ ⟨(fun q => absurd q c9), fun _ => rfl⟩
theorem qX8_isLeaf (G : GG) (l : Launch) (o : Int) (a1 : Int) (h : HP) (P : Int → HP → Prop) (hw : wX8_isLeaf o a1 h P) : CnI l G yX8_isLeaf cX8_isLeaf 2 (some .boolean) 1 [(18, o), (0, a1)] h P := by
  refine CnI.of (lo := [(18, o), (0, a1)]) (by decide) rfl rfl rfl ?_
  intro p e s m args below meth c hc hr
  have hc : VC G p (rmD 1 0) s m args meth c RX8 cX8_isLeaf 2 1 := hc
  refine V.aload_n (t := 8) hc dX8_isLeaf_0 rfl rfl ?_
  refine V.gR hc gR_X8_22 (i' := o) rfl dX8_isLeaf_1 ?_
  refine V.iload_n hc dX8_isLeaf_4 rfl rfl ?_
  obtain ⟨g1, hw⟩ := hw
  refine V.ald hc ak_38 g1 dX8_isLeaf_5 ?_
  obtain ⟨q4, hw⟩ := hw
  have kJ6 : ∀ t3 : Int, ((¬ h 38 o a1 = 0 → t3 = 0) ∧ (h 38 o a1 = 0 → t3 = 1)) → V G p l e (rmD 1 0) s m args below meth c (MQ below (QI G P) args s 0 0 (va_Aof G)) 2 14 [(1, 0), (1, 0)] [(0, t3)] h 0 := by
    intro t3 he
    replace hw := hw t3 he
    clear he
    obtain ⟨g5, hw⟩ := hw
    exact V.zret hc hr dX8_isLeaf_14 g5 hw
  have g2 := q4
  refine V.if_ne hc (tgt := 13) dX8_isLeaf_6 (by decide) g2 (fun c7 => ?_) (fun c7 => ?_)
  · refine V.iconst hc dX8_isLeaf_13 ?_
    refine V.drop (lo' := [(1, 0), (1, 0)]) ⟨Or.inl rfl, Or.inl rfl, trivial⟩ ?_
    exact kJ6 _ ⟨fun _ => rfl, (fun q => absurd q c7)⟩
  · refine V.iconst hc dX8_isLeaf_9 ?_
    refine V.goto hc (tgt := 14) dX8_isLeaf_10 (by decide) ?_
    refine V.drop (lo' := [(1, 0), (1, 0)]) ⟨Or.inl rfl, Or.inl rfl, trivial⟩ ?_
    exact kJ6 _ ⟨(fun q => absurd c7 q), fun _ => rfl⟩
theorem tX1_lay_35 {G : GG} {p : Program} {l : Launch} {e : Jvm.Env} {s : State} {m : MethodId} {args : Array Value} {below : List Frame} {meth : Method} {c : Code} {P : HP → Prop} (hc : VC G p (rmD 1 0) s m args meth c RX1 cX1_lay 9 1) (hr : meth.sig.returnType = none) {o : Int} {a1 : Int} {a2 : Int} {a3 : Int} {l4 : Int} {l5 : Int} {h : HP} {K130 : Int → Int → Prop} (hK130 : ∀ (x6 : Int) (x7 : Int), K130 x6 x7 → V G p l e (rmD 1 0) s m args below meth c (MQ below (QV G P) args s 0 0 (va_Aof G)) 9 130 [(11, o), (0, a1), (0, a2), (0, a3), (0, l4), (0, l5), (0, x6), (0, x7), (1, 0)] [] h 0) : ∀ (f : Nat) (l6 : Int) (l7 : Int), wX1_lay_35 o a1 a2 a3 l4 l5 h K130 f l6 l7 → V G p l e (rmD 1 0) s m args below meth c (MQ below (QV G P) args s 0 0 (va_Aof G)) 9 35 [(11, o), (0, a1), (0, a2), (0, a3), (0, l4), (0, l5), (0, l6), (0, l7), (1, 0)] [] h 0 := by
  intro f
  induction f with
  | zero =>
    intro l6 l7 hw
    exact hw.elim
  | succ f ih =>
    intro l6 l7 hw
    refine V.iload hc dX1_lay_35 rfl ?_
    refine V.iload hc dX1_lay_37 rfl ?_
    obtain ⟨g5, hw⟩ := hw
    obtain ⟨g6, hw⟩ := hw
    refine V.icmp_ge hc (tgt := 130) dX1_lay_39 (by decide) g5 g6 (fun c7 => ?_) (fun c7 => ?_)
    · replace hw := hw.1 c7
      exact hK130 _ _ hw
    · replace hw := hw.2 c7
      refine V.iload_n hc dX1_lay_42 rfl rfl ?_
      refine V.aload_n (t := 1) hc dX1_lay_43 rfl rfl ?_
      refine V.gR hc gR_X1_30 (i' := o) rfl dX1_lay_44 ?_
      refine V.iload hc dX1_lay_47 rfl ?_
      obtain ⟨g8, hw⟩ := hw
      refine V.ald hc ak_19 g8 dX1_lay_49 ?_
      refine V.isub hc dX1_lay_50 ?_
      refine V.aload_n (t := 1) hc dX1_lay_51 rfl rfl ?_
      refine V.gR hc gR_X1_21 (i' := o) rfl dX1_lay_52 ?_
      refine V.iload_n hc dX1_lay_55 rfl rfl ?_
      obtain ⟨g9, hw⟩ := hw
      refine V.ald hc ak_16 g9 dX1_lay_56 ?_
      obtain ⟨g10, hw⟩ := hw
      obtain ⟨g11, hw⟩ := hw
      refine V.icmp_lt hc (tgt := 130) dX1_lay_57 (by decide) g10 g11 (fun c12 => ?_) (fun c12 => ?_)
      · replace hw := hw.1 c12
        exact hK130 _ _ hw
      · replace hw := hw.2 c12
        refine V.aload_n (t := 1) hc dX1_lay_60 rfl rfl ?_
        refine V.gR hc gR_X1_18 (i' := o) rfl dX1_lay_61 ?_
        refine V.iload_n hc dX1_lay_64 rfl rfl ?_
        obtain ⟨g13, hw⟩ := hw
        refine V.ald hc ak_15 g13 dX1_lay_65 ?_
        refine V.aload_n (t := 1) hc dX1_lay_66 rfl rfl ?_
        refine V.gR hc gR_X1_27 (i' := o) rfl dX1_lay_67 ?_
        refine V.iload hc dX1_lay_70 rfl ?_
        obtain ⟨g14, hw⟩ := hw
        refine V.ald hc ak_18 g14 dX1_lay_72 ?_
        refine V.aload_n (t := 1) hc dX1_lay_73 rfl rfl ?_
        refine V.gR hc gR_X1_27 (i' := o) rfl dX1_lay_74 ?_
        refine V.iload hc dX1_lay_77 rfl ?_
        obtain ⟨g15, hw⟩ := hw
        refine V.ald hc ak_18 g15 dX1_lay_79 ?_
        refine V.isub hc dX1_lay_80 ?_
        refine V.imul hc dX1_lay_81 ?_
        refine V.bipush hc dX1_lay_82 (by decide) ?_
        refine V.aload_n (t := 1) hc dX1_lay_84 rfl rfl ?_
        refine V.gR hc gR_X1_30 (i' := o) rfl dX1_lay_85 ?_
        refine V.iload hc dX1_lay_88 rfl ?_
        obtain ⟨g16, hw⟩ := hw
        refine V.ald hc ak_19 g16 dX1_lay_90 ?_
        refine V.aload_n (t := 1) hc dX1_lay_91 rfl rfl ?_
        refine V.gR hc gR_X1_30 (i' := o) rfl dX1_lay_92 ?_
        refine V.iload hc dX1_lay_95 rfl ?_
        obtain ⟨g17, hw⟩ := hw
        refine V.ald hc ak_19 g17 dX1_lay_97 ?_
        refine V.isub hc dX1_lay_98 ?_
        refine V.imul hc dX1_lay_99 ?_
        obtain ⟨q21, hw⟩ := hw
        have kJ27 : ∀ t20 : Int, (((h 15 o a1) * ((h 18 o l7) - (h 18 o l6)) ≤ 100 * ((h 19 o l7) - (h 19 o l6)) → t20 = 0) ∧ (¬ (h 15 o a1) * ((h 18 o l7) - (h 18 o l6)) ≤ 100 * ((h 19 o l7) - (h 19 o l6)) → t20 = 1)) → V G p l e (rmD 1 0) s m args below meth c (MQ below (QV G P) args s 0 0 (va_Aof G)) 9 108 [(11, o), (0, a1), (0, a2), (0, a3), (0, l4), (0, l5), (0, l6), (0, l7), (1, 0)] [(0, t20)] h 0 := by
          intro t20 he
          replace hw := hw t20 he
          clear he
          refine V.istore hc dX1_lay_108 rfl (lo' := [(11, o), (0, a1), (0, a2), (0, a3), (0, l4), (0, l5), (0, l6), (0, l7), (0, t20)]) rfl ?_
          refine V.iload hc dX1_lay_110 rfl ?_
          obtain ⟨q24, hw⟩ := hw
          have kJ25 : ∀ t23 : Int, ((t20 = 0 → t23 = l6) ∧ (¬ t20 = 0 → t23 = l7)) → V G p l e (rmD 1 0) s m args below meth c (MQ below (QV G P) args s 0 0 (va_Aof G)) 9 122 [(11, o), (0, a1), (0, a2), (0, a3), (0, l4), (0, l5), (1, 0), (0, l7), (1, 0)] [(0, t23)] h 0 := by
            intro t23 he
            replace hw := hw t23 he
            clear he
            refine V.istore hc dX1_lay_122 rfl (lo' := [(11, o), (0, a1), (0, a2), (0, a3), (0, l4), (0, l5), (0, t23), (0, l7), (1, 0)]) rfl ?_
            refine V.iinc hc dX1_lay_124 rfl rfl (lo' := [(11, o), (0, a1), (0, a2), (0, a3), (0, l4), (0, l5), (0, t23), (0, l7 + 1), (1, 0)]) rfl ?_
            refine V.goto hc (tgt := 35) dX1_lay_127 (by decide) ?_
            exact ih _ _ hw
          have g22 := q24
          refine V.if_eq hc (tgt := 120) dX1_lay_112 (by decide) g22 (fun c26 => ?_) (fun c26 => ?_)
          · refine V.iload hc dX1_lay_120 rfl ?_
            refine V.drop (lo' := [(11, o), (0, a1), (0, a2), (0, a3), (0, l4), (0, l5), (1, 0), (0, l7), (1, 0)]) ⟨Or.inr rfl, Or.inr rfl, Or.inr rfl, Or.inr rfl, Or.inr rfl, Or.inr rfl, Or.inl rfl, Or.inr rfl, Or.inl rfl, trivial⟩ ?_
            exact kJ25 _ ⟨fun _ => rfl, (fun q => absurd c26 q)⟩
          · refine V.iload hc dX1_lay_115 rfl ?_
            refine V.goto hc (tgt := 122) dX1_lay_117 (by decide) ?_
            refine V.drop (lo' := [(11, o), (0, a1), (0, a2), (0, a3), (0, l4), (0, l5), (1, 0), (0, l7), (1, 0)]) ⟨Or.inr rfl, Or.inr rfl, Or.inr rfl, Or.inr rfl, Or.inr rfl, Or.inr rfl, Or.inl rfl, Or.inr rfl, Or.inl rfl, trivial⟩ ?_
            exact kJ25 _ ⟨(fun q => absurd q c26), fun _ => rfl⟩
        obtain ⟨g18, g19⟩ := q21
        refine V.icmp_le hc (tgt := 107) dX1_lay_100 (by decide) g18 g19 (fun c28 => ?_) (fun c28 => ?_)
        · refine V.iconst hc dX1_lay_107 ?_
          exact kJ27 _ ⟨fun _ => rfl, (fun q => absurd c28 q)⟩
        · refine V.iconst hc dX1_lay_103 ?_
          refine V.goto hc (tgt := 108) dX1_lay_104 (by decide) ?_
          exact kJ27 _ ⟨(fun q => absurd q c28), fun _ => rfl⟩
theorem tX1_lay_298 {G : GG} {p : Program} {l : Launch} {e : Jvm.Env} {s : State} {m : MethodId} {args : Array Value} {below : List Frame} {meth : Method} {c : Code} {P : HP → Prop} (hc : VC G p (rmD 1 0) s m args meth c RX1 cX1_lay 9 1) (hr : meth.sig.returnType = none) {o : Int} {a1 : Int} {a2 : Int} {a3 : Int} {l4 : Int} {l5 : Int} {h : HP} (hw : wX1_lay_298 o a1 a2 a3 l4 l5 P h) : V G p l e (rmD 1 0) s m args below meth c (MQ below (QV G P) args s 0 0 (va_Aof G)) 9 298 [(11, o), (0, a1), (0, a2), (0, a3), (0, l4), (0, l5), (1, 0), (1, 0), (1, 0)] [] h 0 := by
  refine V.iload hc dX1_lay_298 rfl ?_
  refine V.iload hc dX1_lay_300 rfl ?_
  refine V.isub hc dX1_lay_302 ?_
  refine V.bipush hc dX1_lay_303 (by decide) ?_
  obtain ⟨g37, hw⟩ := hw
  refine V.icmp_ge hc (tgt := 327) dX1_lay_305 (by decide) g37 (by omega) (fun c38 => ?_) (fun c38 => ?_)
  · replace hw := hw.1 c38
    refine V.aload_n (t := 1) hc dX1_lay_327 rfl rfl ?_
    refine V.gR hc gR_X1_24 (i' := o) rfl dX1_lay_328 ?_
    refine V.iload_n hc dX1_lay_331 rfl rfl ?_
    refine V.iload hc dX1_lay_332 rfl ?_
    refine V.iload hc dX1_lay_334 rfl ?_
    refine V.isub hc dX1_lay_336 ?_
    obtain ⟨g40, hw⟩ := hw
    refine V.ast hc ak_17 g40 dX1_lay_337 (fun h39 e => ?_)
    replace hw := hw h39 e
    clear e
    exact V.vret hc hr dX1_lay_338 hw
  · replace hw := hw.2 c38
    refine V.aload_n (t := 1) hc dX1_lay_308 rfl rfl ?_
    refine V.gR hc gR_X1_27 (i' := o) rfl dX1_lay_309 ?_
    refine V.iload hc dX1_lay_312 rfl ?_
    refine V.iload_n hc dX1_lay_314 rfl rfl ?_
    obtain ⟨g42, hw⟩ := hw
    refine V.ast hc ak_18 g42 dX1_lay_315 (fun h41 e => ?_)
    replace hw := hw h41 e
    clear e
    refine V.aload_n (t := 1) hc dX1_lay_316 rfl rfl ?_
    refine V.gR hc gR_X1_30 (i' := o) rfl dX1_lay_317 ?_
    refine V.iload hc dX1_lay_320 rfl ?_
    refine V.iload_n hc dX1_lay_322 rfl rfl ?_
    obtain ⟨g44, hw⟩ := hw
    refine V.ast hc ak_19 g44 dX1_lay_323 (fun h43 e => ?_)
    replace hw := hw h43 e
    clear e
    refine V.iinc hc dX1_lay_324 rfl rfl (lo' := [(11, o), (0, a1), (0, a2), (0, a3), (0, l4), (0, l5 + 1), (1, 0), (1, 0), (1, 0)]) rfl ?_
    refine V.aload_n (t := 1) hc dX1_lay_327 rfl rfl ?_
    refine V.gR hc gR_X1_24 (i' := o) rfl dX1_lay_328 ?_
    refine V.iload_n hc dX1_lay_331 rfl rfl ?_
    refine V.iload hc dX1_lay_332 rfl ?_
    refine V.iload hc dX1_lay_334 rfl ?_
    refine V.isub hc dX1_lay_336 ?_
    obtain ⟨g46, hw⟩ := hw
    refine V.ast hc ak_17 g46 dX1_lay_337 (fun h45 e => ?_)
    replace hw := hw h45 e
    clear e
    exact V.vret hc hr dX1_lay_338 hw
theorem tX1_lay_240 {G : GG} {p : Program} {l : Launch} {e : Jvm.Env} {s : State} {m : MethodId} {args : Array Value} {below : List Frame} {meth : Method} {c : Code} {P : HP → Prop} (hc : VC G p (rmD 1 0) s m args meth c RX1 cX1_lay 9 1) (hr : meth.sig.returnType = none) {o : Int} {a1 : Int} {a2 : Int} {a3 : Int} {l4 : Int} {l5 : Int} {h : HP} (hw : wX1_lay_240 o a1 a2 a3 l4 l5 P h) : V G p l e (rmD 1 0) s m args below meth c (MQ below (QV G P) args s 0 0 (va_Aof G)) 9 240 [(11, o), (0, a1), (0, a2), (0, a3), (0, l4), (0, l5), (1, 0), (1, 0), (1, 0)] [] h 0 := by
  refine V.iload hc dX1_lay_240 rfl ?_
  refine V.iload hc dX1_lay_242 rfl ?_
  obtain ⟨g34, hw⟩ := hw
  obtain ⟨g35, hw⟩ := hw
  refine V.icmp_le hc (tgt := 298) dX1_lay_244 (by decide) g34 g35 (fun c36 => ?_) (fun c36 => ?_)
  · replace hw := hw.1 c36
    exact tX1_lay_298 hc hr  hw
  · replace hw := hw.2 c36
    refine V.aload_n (t := 1) hc dX1_lay_247 rfl rfl ?_
    refine V.gR hc gR_X1_30 (i' := o) rfl dX1_lay_248 ?_
    refine V.iload hc dX1_lay_251 rfl ?_
    refine V.iconst hc dX1_lay_253 ?_
    refine V.isub hc dX1_lay_254 ?_
    obtain ⟨g47, hw⟩ := hw
    refine V.ald hc ak_19 g47 dX1_lay_255 ?_
    refine V.iload_n hc dX1_lay_256 rfl rfl ?_
    obtain ⟨g48, hw⟩ := hw
    obtain ⟨g49, hw⟩ := hw
    refine V.icmp_ne hc (tgt := 298) dX1_lay_257 (by decide) g48 g49 (fun c50 => ?_) (fun c50 => ?_)
    · replace hw := hw.1 c50
      exact tX1_lay_298 hc hr  hw
    · replace hw := hw.2 c50
      refine V.aload_n (t := 1) hc dX1_lay_260 rfl rfl ?_
      refine V.gR hc gR_X1_27 (i' := o) rfl dX1_lay_261 ?_
      refine V.iload hc dX1_lay_264 rfl ?_
      refine V.iconst hc dX1_lay_266 ?_
      refine V.isub hc dX1_lay_267 ?_
      refine V.iload_n hc dX1_lay_268 rfl rfl ?_
      refine V.aload_n (t := 1) hc dX1_lay_269 rfl rfl ?_
      refine V.gR hc gR_X1_27 (i' := o) rfl dX1_lay_270 ?_
      refine V.iload hc dX1_lay_273 rfl ?_
      refine V.iconst hc dX1_lay_275 ?_
      refine V.isub hc dX1_lay_276 ?_
      obtain ⟨g51, hw⟩ := hw
      refine V.ald hc ak_18 g51 dX1_lay_277 ?_
      obtain ⟨q56, hw⟩ := hw
      have kJ61 : ∀ t55 : Int, ((a2 ≤ h 18 o (l5 - 1) → t55 = h 18 o (l5 - 1)) ∧ (¬ a2 ≤ h 18 o (l5 - 1) → t55 = a2)) → V G p l e (rmD 1 0) s m args below meth c (MQ below (QV G P) args s 0 0 (va_Aof G)) 9 294 [(11, o), (0, a1), (1, 0), (1, 0), (0, l4), (0, l5), (1, 0), (1, 0), (1, 0)] [(0, t55), (0, l5 - 1), (28, o)] h 0 := by
        intro t55 he
        replace hw := hw t55 he
        clear he
        obtain ⟨g58, hw⟩ := hw
        refine V.ast hc ak_18 g58 dX1_lay_294 (fun h57 e => ?_)
        replace hw := hw h57 e
        clear e
        refine V.goto hc (tgt := 327) dX1_lay_295 (by decide) ?_
        refine V.aload_n (t := 1) hc dX1_lay_327 rfl rfl ?_
        refine V.gR hc gR_X1_24 (i' := o) rfl dX1_lay_328 ?_
        refine V.iload_n hc dX1_lay_331 rfl rfl ?_
        refine V.iload hc dX1_lay_332 rfl ?_
        refine V.iload hc dX1_lay_334 rfl ?_
        refine V.isub hc dX1_lay_336 ?_
        obtain ⟨g60, hw⟩ := hw
        refine V.ast hc ak_17 g60 dX1_lay_337 (fun h59 e => ?_)
        replace hw := hw h59 e
        clear e
        exact V.vret hc hr dX1_lay_338 hw
      obtain ⟨g52, g53, q62⟩ := q56
      refine V.icmp_le hc (tgt := 285) dX1_lay_278 (by decide) g52 g53 (fun c63 => ?_) (fun c63 => ?_)
      · have q64 := q62 c63
        have g54 := q64
        refine V.aload_n (t := 1) hc dX1_lay_285 rfl rfl ?_
        refine V.gR hc gR_X1_27 (i' := o) rfl dX1_lay_286 ?_
        refine V.iload hc dX1_lay_289 rfl ?_
        refine V.iconst hc dX1_lay_291 ?_
        refine V.isub hc dX1_lay_292 ?_
        refine V.ald hc ak_18 g54 dX1_lay_293 ?_
        refine V.drop (lo' := [(11, o), (0, a1), (1, 0), (1, 0), (0, l4), (0, l5), (1, 0), (1, 0), (1, 0)]) ⟨Or.inr rfl, Or.inr rfl, Or.inl rfl, Or.inl rfl, Or.inr rfl, Or.inr rfl, Or.inr rfl, Or.inr rfl, Or.inr rfl, trivial⟩ ?_
        exact kJ61 _ ⟨fun _ => rfl, (fun q => absurd c63 q)⟩
      · refine V.iload_n hc dX1_lay_281 rfl rfl ?_
        refine V.goto hc (tgt := 294) dX1_lay_282 (by decide) ?_
        refine V.drop (lo' := [(11, o), (0, a1), (1, 0), (1, 0), (0, l4), (0, l5), (1, 0), (1, 0), (1, 0)]) ⟨Or.inr rfl, Or.inr rfl, Or.inl rfl, Or.inl rfl, Or.inr rfl, Or.inr rfl, Or.inr rfl, Or.inr rfl, Or.inr rfl, trivial⟩ ?_
        exact kJ61 _ ⟨(fun q => absurd q c63), fun _ => rfl⟩
theorem tX1_lay_171 {G : GG} {p : Program} {l : Launch} {e : Jvm.Env} {s : State} {m : MethodId} {args : Array Value} {below : List Frame} {meth : Method} {c : Code} {P : HP → Prop} (hc : VC G p (rmD 1 0) s m args meth c RX1 cX1_lay 9 1) (hr : meth.sig.returnType = none) {o : Int} {a1 : Int} {a2 : Int} {a3 : Int} {l4 : Int} {l5 : Int} {l7 : Int} {K228 : HP → Prop} (hK228 : ∀  (h : HP), K228  h → V G p l e (rmD 1 0) s m args below meth c (MQ below (QV G P) args s 0 0 (va_Aof G)) 9 228 [(11, o), (0, a1), (0, a2), (0, a3), (0, l4), (0, l5), (1, 0), (0, l7), (1, 0)] [] h 0) : ∀ (f : Nat) (l8 : Int) (h : HP), wX1_lay_171 o a1 a2 a3 l4 l5 l7 K228 f l8 h → V G p l e (rmD 1 0) s m args below meth c (MQ below (QV G P) args s 0 0 (va_Aof G)) 9 171 [(11, o), (0, a1), (0, a2), (0, a3), (0, l4), (0, l5), (1, 0), (0, l7), (0, l8)] [] h 0 := by
  intro f
  induction f with
  | zero =>
    intro l8 h hw
    exact hw.elim
  | succ f ih =>
    intro l8 h hw
    refine V.iload hc dX1_lay_171 rfl ?_
    refine V.iload hc dX1_lay_173 rfl ?_
    obtain ⟨g71, hw⟩ := hw
    obtain ⟨g72, hw⟩ := hw
    refine V.icmp_ge hc (tgt := 228) dX1_lay_175 (by decide) g71 g72 (fun c73 => ?_) (fun c73 => ?_)
    · replace hw := hw.1 c73
      refine V.drop (lo' := [(11, o), (0, a1), (0, a2), (0, a3), (0, l4), (0, l5), (1, 0), (0, l7), (1, 0)]) ⟨Or.inr rfl, Or.inr rfl, Or.inr rfl, Or.inr rfl, Or.inr rfl, Or.inr rfl, Or.inr rfl, Or.inr rfl, Or.inl rfl, trivial⟩ ?_
      exact hK228 _ hw
    · replace hw := hw.2 c73
      refine V.aload_n (t := 1) hc dX1_lay_178 rfl rfl ?_
      refine V.gR hc gR_X1_27 (i' := o) rfl dX1_lay_179 ?_
      refine V.iload hc dX1_lay_182 rfl ?_
      refine V.iconst hc dX1_lay_184 ?_
      refine V.iadd hc dX1_lay_185 ?_
      refine V.iload hc dX1_lay_186 rfl ?_
      refine V.iadd hc dX1_lay_188 ?_
      refine V.iload hc dX1_lay_189 rfl ?_
      refine V.isub hc dX1_lay_191 ?_
      refine V.aload_n (t := 1) hc dX1_lay_192 rfl rfl ?_
      refine V.gR hc gR_X1_27 (i' := o) rfl dX1_lay_193 ?_
      refine V.iload hc dX1_lay_196 rfl ?_
      obtain ⟨g74, hw⟩ := hw
      refine V.ald hc ak_18 g74 dX1_lay_198 ?_
      obtain ⟨g76, hw⟩ := hw
      refine V.ast hc ak_18 g76 dX1_lay_199 (fun h75 e => ?_)
      replace hw := hw h75 e
      clear e
      refine V.aload_n (t := 1) hc dX1_lay_200 rfl rfl ?_
      refine V.gR hc gR_X1_30 (i' := o) rfl dX1_lay_201 ?_
      refine V.iload hc dX1_lay_204 rfl ?_
      refine V.iconst hc dX1_lay_206 ?_
      refine V.iadd hc dX1_lay_207 ?_
      refine V.iload hc dX1_lay_208 rfl ?_
      refine V.iadd hc dX1_lay_210 ?_
      refine V.iload hc dX1_lay_211 rfl ?_
      refine V.isub hc dX1_lay_213 ?_
      refine V.aload_n (t := 1) hc dX1_lay_214 rfl rfl ?_
      refine V.gR hc gR_X1_30 (i' := o) rfl dX1_lay_215 ?_
      refine V.iload hc dX1_lay_218 rfl ?_
      obtain ⟨g77, hw⟩ := hw
      refine V.ald hc ak_19 g77 dX1_lay_220 ?_
      obtain ⟨g79, hw⟩ := hw
      refine V.ast hc ak_19 g79 dX1_lay_221 (fun h78 e => ?_)
      replace hw := hw h78 e
      clear e
      refine V.iinc hc dX1_lay_222 rfl rfl (lo' := [(11, o), (0, a1), (0, a2), (0, a3), (0, l4), (0, l5), (1, 0), (0, l7), (0, l8 + 1)]) rfl ?_
      refine V.goto hc (tgt := 171) dX1_lay_225 (by decide) ?_
      exact ih _ _ hw
theorem qX1_lay (G : GG) (l : Launch) (o : Int) (a1 : Int) (a2 : Int) (a3 : Int) (h : HP) (P : HP → Prop) (hw : wX1_lay o a1 a2 a3 h P) : CnV l G yX1_lay cX1_lay 9 1 [(11, o), (0, a1), (0, a2), (0, a3)] h P := by
  refine CnV.of (lo := [(11, o), (0, a1), (0, a2), (0, a3), (1, 0), (1, 0), (1, 0), (1, 0), (1, 0)]) (by decide) rfl rfl rfl ?_
  intro p e s m args below meth c hc hr
  have hc : VC G p (rmD 1 0) s m args meth c RX1 cX1_lay 9 1 := hc
  refine V.aload_n (t := 1) hc dX1_lay_0 rfl rfl ?_
  refine V.gR hc gR_X1_18 (i' := o) rfl dX1_lay_1 ?_
  refine V.iload_n hc dX1_lay_4 rfl rfl ?_
  obtain ⟨g1, hw⟩ := hw
  refine V.ald hc ak_15 g1 dX1_lay_5 ?_
  obtain ⟨g2, hw⟩ := hw
  refine V.if_ne hc (tgt := 10) dX1_lay_6 (by decide) g2 (fun c3 => ?_) (fun c3 => ?_)
  · replace hw := hw.1 c3
    refine V.iload_n hc dX1_lay_10 rfl rfl ?_
    refine V.bipush hc dX1_lay_11 (by decide) ?_
    refine V.imul hc dX1_lay_13 ?_
    refine V.istore hc dX1_lay_14 rfl (lo' := [(11, o), (0, a1), (0, a2), (0, a3), (0, a1 * 32), (1, 0), (1, 0), (1, 0), (1, 0)]) rfl ?_
    refine V.iload hc dX1_lay_16 rfl ?_
    refine V.aload_n (t := 1) hc dX1_lay_18 rfl rfl ?_
    refine V.gR hc gR_X1_24 (i' := o) rfl dX1_lay_19 ?_
    refine V.iload_n hc dX1_lay_22 rfl rfl ?_
    obtain ⟨g4, hw⟩ := hw
    refine V.ald hc ak_17 g4 dX1_lay_23 ?_
    refine V.iadd hc dX1_lay_24 ?_
    refine V.istore hc dX1_lay_25 rfl (lo' := [(11, o), (0, a1), (0, a2), (0, a3), (0, a1 * 32), (0, (a1 * 32) + (h 17 o a1)), (1, 0), (1, 0), (1, 0)]) rfl ?_
    refine V.iload hc dX1_lay_27 rfl ?_
    refine V.istore hc dX1_lay_29 rfl (lo' := [(11, o), (0, a1), (0, a2), (0, a3), (0, a1 * 32), (0, (a1 * 32) + (h 17 o a1)), (0, a1 * 32), (1, 0), (1, 0)]) rfl ?_
    refine V.iload hc dX1_lay_31 rfl ?_
    refine V.istore hc dX1_lay_33 rfl (lo' := [(11, o), (0, a1), (0, a2), (0, a3), (0, a1 * 32), (0, (a1 * 32) + (h 17 o a1)), (0, a1 * 32), (0, a1 * 32), (1, 0)]) rfl ?_
    obtain ⟨f29, hw⟩ := hw
    refine tX1_lay_35 hc hr ?_ f29 _ _ hw
    · intro l30 l31 hw
      refine V.iload hc dX1_lay_130 rfl ?_
      refine V.iload hc dX1_lay_132 rfl ?_
      refine V.isub hc dX1_lay_134 ?_
      refine V.iconst hc dX1_lay_135 ?_
      obtain ⟨g32, hw⟩ := hw
      refine V.icmp_le hc (tgt := 240) dX1_lay_136 (by decide) g32 (by omega) (fun c33 => ?_) (fun c33 => ?_)
      · replace hw := hw.1 c33
        refine V.drop (lo' := [(11, o), (0, a1), (0, a2), (0, a3), (0, a1 * 32), (0, (a1 * 32) + (h 17 o a1)), (1, 0), (1, 0), (1, 0)]) ⟨Or.inr rfl, Or.inr rfl, Or.inr rfl, Or.inr rfl, Or.inr rfl, Or.inr rfl, Or.inl rfl, Or.inl rfl, Or.inr rfl, trivial⟩ ?_
        exact tX1_lay_240 hc hr  hw
      · replace hw := hw.2 c33
        refine V.aload_n (t := 1) hc dX1_lay_139 rfl rfl ?_
        refine V.gR hc gR_X1_27 (i' := o) rfl dX1_lay_140 ?_
        refine V.iload hc dX1_lay_143 rfl ?_
        refine V.aload_n (t := 1) hc dX1_lay_145 rfl rfl ?_
        refine V.gR hc gR_X1_27 (i' := o) rfl dX1_lay_146 ?_
        refine V.iload hc dX1_lay_149 rfl ?_
        obtain ⟨g65, hw⟩ := hw
        refine V.ald hc ak_18 g65 dX1_lay_151 ?_
        obtain ⟨g67, hw⟩ := hw
        refine V.ast hc ak_18 g67 dX1_lay_152 (fun h66 e => ?_)
        replace hw := hw h66 e
        clear e
        refine V.aload_n (t := 1) hc dX1_lay_153 rfl rfl ?_
        refine V.gR hc gR_X1_30 (i' := o) rfl dX1_lay_154 ?_
        refine V.iload hc dX1_lay_157 rfl ?_
        refine V.aload_n (t := 1) hc dX1_lay_159 rfl rfl ?_
        refine V.gR hc gR_X1_30 (i' := o) rfl dX1_lay_160 ?_
        refine V.iload hc dX1_lay_163 rfl ?_
        obtain ⟨g68, hw⟩ := hw
        refine V.ald hc ak_19 g68 dX1_lay_165 ?_
        obtain ⟨g70, hw⟩ := hw
        refine V.ast hc ak_19 g70 dX1_lay_166 (fun h69 e => ?_)
        replace hw := hw h69 e
        clear e
        refine V.iload hc dX1_lay_167 rfl ?_
        refine V.istore hc dX1_lay_169 rfl (lo' := [(11, o), (0, a1), (0, a2), (0, a3), (0, a1 * 32), (0, (a1 * 32) + (h 17 o a1)), (0, l30), (0, l31), (0, l31)]) rfl ?_
        obtain ⟨f80, hw⟩ := hw
        refine V.drop (lo' := [(11, o), (0, a1), (0, a2), (0, a3), (0, a1 * 32), (0, (a1 * 32) + (h 17 o a1)), (1, 0), (0, l31), (0, l31)]) ⟨Or.inr rfl, Or.inr rfl, Or.inr rfl, Or.inr rfl, Or.inr rfl, Or.inr rfl, Or.inl rfl, Or.inr rfl, Or.inr rfl, trivial⟩ ?_
        refine tX1_lay_171 hc hr ?_ f80 _ _ hw
        · intro h81 hw
          refine V.iload hc dX1_lay_228 rfl ?_
          refine V.iload hc dX1_lay_230 rfl ?_
          refine V.iload hc dX1_lay_232 rfl ?_
          refine V.isub hc dX1_lay_234 ?_
          refine V.iconst hc dX1_lay_235 ?_
          refine V.isub hc dX1_lay_236 ?_
          refine V.isub hc dX1_lay_237 ?_
          refine V.istore hc dX1_lay_238 rfl (lo' := [(11, o), (0, a1), (0, a2), (0, a3), (0, a1 * 32), (0, ((a1 * 32) + (h 17 o a1)) - ((l31 - (a1 * 32)) - 1)), (1, 0), (0, l31), (1, 0)]) rfl ?_
          refine V.drop (lo' := [(11, o), (0, a1), (0, a2), (0, a3), (0, a1 * 32), (0, ((a1 * 32) + (h 17 o a1)) - ((l31 - (a1 * 32)) - 1)), (1, 0), (1, 0), (1, 0)]) ⟨Or.inr rfl, Or.inr rfl, Or.inr rfl, Or.inr rfl, Or.inr rfl, Or.inr rfl, Or.inr rfl, Or.inl rfl, Or.inr rfl, trivial⟩ ?_
          exact tX1_lay_240 hc hr  hw
  · replace hw := hw.2 c3
    exact V.vret hc hr dX1_lay_9 hw
theorem tX6_wake_19 {G : GG} {p : Program} {l : Launch} {e : Jvm.Env} {s : State} {m : MethodId} {args : Array Value} {below : List Frame} {meth : Method} {c : Code} {P : HP → Prop} (hc : VC G p (rmD 2 0) s m args meth c RX6 cX6_wake 7 2) (hr : meth.sig.returnType = none) {o : Int} {a1 : Int} {l2 : Int} {h : HP} {K115 : Int → Int → Prop} (hK115 : ∀ (x3 : Int) (x4 : Int), K115 x3 x4 → V G p l e (rmD 2 0) s m args below meth c (MQ below (QV G P) args s 0 0 (va_Aof G)) 7 115 [(16, o), (0, a1), (0, l2), (0, x3), (0, x4), (1, 0), (1, 0)] [] h 0) : ∀ (f : Nat) (l3 : Int) (l4 : Int) (l5 : Int), wX6_wake_19 o a1 l2 h K115 f l3 l4 l5 → V G p l e (rmD 2 0) s m args below meth c (MQ below (QV G P) args s 0 0 (va_Aof G)) 7 19 [(16, o), (0, a1), (0, l2), (0, l3), (0, l4), (0, l5), (1, 0)] [] h 0 := by
  intro f
  induction f with
  | zero =>
    intro l3 l4 l5 hw
    exact hw.elim
  | succ f ih =>
    intro l3 l4 l5 hw
    refine V.iload hc dX6_wake_19 rfl ?_
    refine V.aload_n (t := 6) hc dX6_wake_21 rfl rfl ?_
    refine V.gR hc gR_X6_68 (i' := 1) rfl dX6_wake_22 ?_
    refine V.gR hc gR_X6_117 (i' := 1) rfl dX6_wake_25 ?_
    refine V.iload_n hc dX6_wake_28 rfl rfl ?_
    obtain ⟨g2, hw⟩ := hw
    refine V.ald hc ak_38 g2 dX6_wake_29 ?_
    obtain ⟨g3, hw⟩ := hw
    obtain ⟨g4, hw⟩ := hw
    refine V.icmp_ge hc (tgt := 115) dX6_wake_30 (by decide) g3 g4 (fun c5 => ?_) (fun c5 => ?_)
    · replace hw := hw.1 c5
      refine V.drop (lo' := [(16, o), (0, a1), (0, l2), (0, l3), (0, l4), (1, 0), (1, 0)]) ⟨Or.inr rfl, Or.inr rfl, Or.inr rfl, Or.inr rfl, Or.inr rfl, Or.inl rfl, Or.inr rfl, trivial⟩ ?_
      exact hK115 _ _ hw
    · replace hw := hw.2 c5
      refine V.aload_n (t := 6) hc dX6_wake_33 rfl rfl ?_
      refine V.gR hc gR_X6_68 (i' := 1) rfl dX6_wake_34 ?_
      refine V.gR hc gR_X6_120 (i' := 1) rfl dX6_wake_37 ?_
      refine V.iload_n hc dX6_wake_40 rfl rfl ?_
      refine V.bipush hc dX6_wake_41 (by decide) ?_
      refine V.imul hc dX6_wake_43 ?_
      refine V.iload hc dX6_wake_44 rfl ?_
      refine V.iadd hc dX6_wake_46 ?_
      obtain ⟨g6, hw⟩ := hw
      refine V.ald hc ak_39 g6 dX6_wake_47 ?_
      refine V.istore hc dX6_wake_48 rfl (lo' := [(16, o), (0, a1), (0, l2), (0, l3), (0, l4), (0, l5), (0, h 39 1 ((l2 * 12) + l5))]) rfl ?_
      refine V.aload_n (t := 6) hc dX6_wake_50 rfl rfl ?_
      refine V.gR hc gR_X6_46 (i' := o) rfl dX6_wake_51 ?_
      refine V.iload hc dX6_wake_54 rfl ?_
      obtain ⟨g7, hw⟩ := hw
      refine V.ald hc ak_29 g7 dX6_wake_56 ?_
      obtain ⟨q23, hw⟩ := hw
      have kJ24 : ∀ t21 t22 : Int, ((h 29 o (h 39 1 ((l2 * 12) + l5)) ≤ 0 → (t21 = l3 ∧ t22 = l4)) ∧ (¬ h 29 o (h 39 1 ((l2 * 12) + l5)) ≤ 0 → ((l3 ≤ h 26 o (h 39 1 ((l2 * 12) + l5)) → ((h 26 o (h 39 1 ((l2 * 12) + l5)) ≤ l4 → (t21 = l3 ∧ t22 = l4)) ∧ (¬ h 26 o (h 39 1 ((l2 * 12) + l5)) ≤ l4 → (t21 = l3 ∧ t22 = h 26 o (h 39 1 ((l2 * 12) + l5)))))) ∧ (¬ l3 ≤ h 26 o (h 39 1 ((l2 * 12) + l5)) → ((h 26 o (h 39 1 ((l2 * 12) + l5)) ≤ l4 → (t21 = h 26 o (h 39 1 ((l2 * 12) + l5)) ∧ t22 = l4)) ∧ (¬ h 26 o (h 39 1 ((l2 * 12) + l5)) ≤ l4 → (t21 = h 26 o (h 39 1 ((l2 * 12) + l5)) ∧ t22 = h 26 o (h 39 1 ((l2 * 12) + l5))))))))) → V G p l e (rmD 2 0) s m args below meth c (MQ below (QV G P) args s 0 0 (va_Aof G)) 7 109 [(16, o), (0, a1), (0, l2), (0, t21), (0, t22), (0, l5), (1, 0)] [] h 0 := by
        intro t21 t22 he
        replace hw := hw t21 t22 he
        clear he
        refine V.iinc hc dX6_wake_109 rfl rfl (lo' := [(16, o), (0, a1), (0, l2), (0, t21), (0, t22), (0, l5 + 1), (1, 0)]) rfl ?_
        refine V.goto hc (tgt := 19) dX6_wake_112 (by decide) ?_
        exact ih _ _ _ hw
      obtain ⟨g8, q25⟩ := q23
      refine V.if_le hc (tgt := 109) dX6_wake_57 (by decide) g8 (fun c26 => ?_) (fun c26 => ?_)
      · refine V.drop (lo' := [(16, o), (0, a1), (0, l2), (0, l3), (0, l4), (0, l5), (1, 0)]) ⟨Or.inr rfl, Or.inr rfl, Or.inr rfl, Or.inr rfl, Or.inr rfl, Or.inr rfl, Or.inl rfl, trivial⟩ ?_
        exact kJ24 _ _ ⟨fun _ => ⟨rfl, rfl⟩, (fun q => absurd c26 q)⟩
      · have q27 := q25 c26
        obtain ⟨g9, g10, g11, q28, q29⟩ := q27
        refine V.aload_n (t := 6) hc dX6_wake_60 rfl rfl ?_
        refine V.gR hc gR_X6_37 (i' := o) rfl dX6_wake_61 ?_
        refine V.iload hc dX6_wake_64 rfl ?_
        refine V.ald hc ak_26 g9 dX6_wake_66 ?_
        refine V.iload_n hc dX6_wake_67 rfl rfl ?_
        refine V.icmp_ge hc (tgt := 81) dX6_wake_68 (by decide) g10 g11 (fun c30 => ?_) (fun c30 => ?_)
        · have q31 := q28 c30
          obtain ⟨g12, g13, g14, q32⟩ := q31
          refine V.iload_n hc dX6_wake_81 rfl rfl ?_
          refine V.istore_n hc dX6_wake_82 rfl rfl (lo' := [(16, o), (0, a1), (0, l2), (0, l3), (0, l4), (0, l5), (0, h 39 1 ((l2 * 12) + l5))]) rfl ?_
          refine V.aload_n (t := 6) hc dX6_wake_83 rfl rfl ?_
          refine V.gR hc gR_X6_37 (i' := o) rfl dX6_wake_84 ?_
          refine V.iload hc dX6_wake_87 rfl ?_
          refine V.ald hc ak_26 g12 dX6_wake_89 ?_
          refine V.iload hc dX6_wake_90 rfl ?_
          refine V.icmp_le hc (tgt := 105) dX6_wake_92 (by decide) g13 g14 (fun c33 => ?_) (fun c33 => ?_)
          · refine V.iload hc dX6_wake_105 rfl ?_
            refine V.istore hc dX6_wake_107 rfl (lo' := [(16, o), (0, a1), (0, l2), (0, l3), (0, l4), (0, l5), (0, h 39 1 ((l2 * 12) + l5))]) rfl ?_
            refine V.drop (lo' := [(16, o), (0, a1), (0, l2), (0, l3), (0, l4), (0, l5), (1, 0)]) ⟨Or.inr rfl, Or.inr rfl, Or.inr rfl, Or.inr rfl, Or.inr rfl, Or.inr rfl, Or.inl rfl, trivial⟩ ?_
            exact kJ24 _ _ ⟨(fun q => absurd q c26), fun _ => ⟨fun _ => ⟨fun _ => ⟨rfl, rfl⟩, (fun q => absurd c33 q)⟩, (fun q => absurd c30 q)⟩⟩
          · have q34 := q32 c33
            have g15 := q34
            refine V.aload_n (t := 6) hc dX6_wake_95 rfl rfl ?_
            refine V.gR hc gR_X6_37 (i' := o) rfl dX6_wake_96 ?_
            refine V.iload hc dX6_wake_99 rfl ?_
            refine V.ald hc ak_26 g15 dX6_wake_101 ?_
            refine V.goto hc (tgt := 107) dX6_wake_102 (by decide) ?_
            refine V.istore hc dX6_wake_107 rfl (lo' := [(16, o), (0, a1), (0, l2), (0, l3), (0, h 26 o (h 39 1 ((l2 * 12) + l5))), (0, l5), (0, h 39 1 ((l2 * 12) + l5))]) rfl ?_
            refine V.drop (lo' := [(16, o), (0, a1), (0, l2), (0, l3), (0, h 26 o (h 39 1 ((l2 * 12) + l5))), (0, l5), (1, 0)]) ⟨Or.inr rfl, Or.inr rfl, Or.inr rfl, Or.inr rfl, Or.inr rfl, Or.inr rfl, Or.inl rfl, trivial⟩ ?_
            exact kJ24 _ _ ⟨(fun q => absurd q c26), fun _ => ⟨fun _ => ⟨(fun q => absurd q c33), fun _ => ⟨rfl, rfl⟩⟩, (fun q => absurd c30 q)⟩⟩
        · have q35 := q29 c30
          obtain ⟨g16, g17, g18, g19, q36⟩ := q35
          refine V.aload_n (t := 6) hc dX6_wake_71 rfl rfl ?_
          refine V.gR hc gR_X6_37 (i' := o) rfl dX6_wake_72 ?_
          refine V.iload hc dX6_wake_75 rfl ?_
          refine V.ald hc ak_26 g16 dX6_wake_77 ?_
          refine V.goto hc (tgt := 82) dX6_wake_78 (by decide) ?_
          refine V.istore_n hc dX6_wake_82 rfl rfl (lo' := [(16, o), (0, a1), (0, l2), (0, h 26 o (h 39 1 ((l2 * 12) + l5))), (0, l4), (0, l5), (0, h 39 1 ((l2 * 12) + l5))]) rfl ?_
          refine V.aload_n (t := 6) hc dX6_wake_83 rfl rfl ?_
          refine V.gR hc gR_X6_37 (i' := o) rfl dX6_wake_84 ?_
          refine V.iload hc dX6_wake_87 rfl ?_
          refine V.ald hc ak_26 g17 dX6_wake_89 ?_
          refine V.iload hc dX6_wake_90 rfl ?_
          refine V.icmp_le hc (tgt := 105) dX6_wake_92 (by decide) g18 g19 (fun c37 => ?_) (fun c37 => ?_)
          · refine V.iload hc dX6_wake_105 rfl ?_
            refine V.istore hc dX6_wake_107 rfl (lo' := [(16, o), (0, a1), (0, l2), (0, h 26 o (h 39 1 ((l2 * 12) + l5))), (0, l4), (0, l5), (0, h 39 1 ((l2 * 12) + l5))]) rfl ?_
            refine V.drop (lo' := [(16, o), (0, a1), (0, l2), (0, h 26 o (h 39 1 ((l2 * 12) + l5))), (0, l4), (0, l5), (1, 0)]) ⟨Or.inr rfl, Or.inr rfl, Or.inr rfl, Or.inr rfl, Or.inr rfl, Or.inr rfl, Or.inl rfl, trivial⟩ ?_
            exact kJ24 _ _ ⟨(fun q => absurd q c26), fun _ => ⟨(fun q => absurd q c30), fun _ => ⟨fun _ => ⟨rfl, rfl⟩, (fun q => absurd c37 q)⟩⟩⟩
          · have q38 := q36 c37
            have g20 := q38
            refine V.aload_n (t := 6) hc dX6_wake_95 rfl rfl ?_
            refine V.gR hc gR_X6_37 (i' := o) rfl dX6_wake_96 ?_
            refine V.iload hc dX6_wake_99 rfl ?_
            refine V.ald hc ak_26 g20 dX6_wake_101 ?_
            refine V.goto hc (tgt := 107) dX6_wake_102 (by decide) ?_
            refine V.istore hc dX6_wake_107 rfl (lo' := [(16, o), (0, a1), (0, l2), (0, h 26 o (h 39 1 ((l2 * 12) + l5))), (0, h 26 o (h 39 1 ((l2 * 12) + l5))), (0, l5), (0, h 39 1 ((l2 * 12) + l5))]) rfl ?_
            refine V.drop (lo' := [(16, o), (0, a1), (0, l2), (0, h 26 o (h 39 1 ((l2 * 12) + l5))), (0, h 26 o (h 39 1 ((l2 * 12) + l5))), (0, l5), (1, 0)]) ⟨Or.inr rfl, Or.inr rfl, Or.inr rfl, Or.inr rfl, Or.inr rfl, Or.inr rfl, Or.inl rfl, trivial⟩ ?_
            exact kJ24 _ _ ⟨(fun q => absurd q c26), fun _ => ⟨(fun q => absurd q c30), fun _ => ⟨(fun q => absurd q c37), fun _ => ⟨rfl, rfl⟩⟩⟩⟩
theorem qX6_wake (G : GG) (l : Launch) (o : Int) (a1 : Int) (h : HP) (P : HP → Prop) (hw : wX6_wake o a1 h P) : CnV l G yX6_wake cX6_wake 7 2 [(16, o), (0, a1)] h P := by
  refine CnV.of (lo := [(16, o), (0, a1), (1, 0), (1, 0), (1, 0), (1, 0), (1, 0)]) (by decide) rfl rfl rfl ?_
  intro p e s m args below meth c hc hr
  have hc : VC G p (rmD 2 0) s m args meth c RX6 cX6_wake 7 2 := hc
  refine V.aload_n (t := 6) hc dX6_wake_0 rfl rfl ?_
  refine V.gR hc gR_X6_68 (i' := 1) rfl dX6_wake_1 ?_
  refine V.gR hc gR_X6_137 (i' := 1) rfl dX6_wake_4 ?_
  refine V.iload_n hc dX6_wake_7 rfl rfl ?_
  obtain ⟨g1, hw⟩ := hw
  refine V.ald hc ak_37 g1 dX6_wake_8 ?_
  refine V.istore_n hc dX6_wake_9 rfl rfl (lo' := [(16, o), (0, a1), (0, h 37 1 a1), (1, 0), (1, 0), (1, 0), (1, 0)]) rfl ?_
  refine V.ldc hc (x := 1000000000) kl_X6_144 dX6_wake_10 ?_
  refine V.istore_n hc dX6_wake_12 rfl rfl (lo' := [(16, o), (0, a1), (0, h 37 1 a1), (0, 1000000000), (1, 0), (1, 0), (1, 0)]) rfl ?_
  refine V.iconst hc dX6_wake_13 ?_
  refine V.istore hc dX6_wake_14 rfl (lo' := [(16, o), (0, a1), (0, h 37 1 a1), (0, 1000000000), (0, (-1)), (1, 0), (1, 0)]) rfl ?_
  refine V.iconst hc dX6_wake_16 ?_
  refine V.istore hc dX6_wake_17 rfl (lo' := [(16, o), (0, a1), (0, h 37 1 a1), (0, 1000000000), (0, (-1)), (0, 0), (1, 0)]) rfl ?_
  obtain ⟨f39, hw⟩ := hw
  refine tX6_wake_19 hc hr ?_ f39 _ _ _ hw
  · intro l40 l41 hw
    refine V.iload hc dX6_wake_115 rfl ?_
    refine V.iconst hc dX6_wake_117 ?_
    obtain ⟨q46, hw⟩ := hw
    have kJ77 : ∀ t45 : Int, ((¬ l41 = (-1) → t45 = (l40 + l41) / 2) ∧ (l41 = (-1) → t45 = h 27 o (h 37 1 a1))) → V G p l e (rmD 2 0) s m args below meth c (MQ below (QV G P) args s 0 0 (va_Aof G)) 7 136 [(16, o), (0, a1), (0, h 37 1 a1), (1, 0), (1, 0), (1, 0), (1, 0)] [(0, t45)] h 0 := by
      intro t45 he
      replace hw := hw t45 he
      clear he
      refine V.istore hc dX6_wake_136 rfl (lo' := [(16, o), (0, a1), (0, h 37 1 a1), (1, 0), (1, 0), (0, t45), (1, 0)]) rfl ?_
      refine V.aload_n (t := 6) hc dX6_wake_138 rfl rfl ?_
      refine V.gR hc gR_X6_37 (i' := o) rfl dX6_wake_139 ?_
      refine V.iload_n hc dX6_wake_142 rfl rfl ?_
      obtain ⟨g47, hw⟩ := hw
      refine V.ald hc ak_26 g47 dX6_wake_143 ?_
      refine V.iload hc dX6_wake_144 rfl ?_
      obtain ⟨q52, hw⟩ := hw
      have kJ73 : ∀ t51 : Int, ((h 26 o a1 ≤ t45 → t51 = t45) ∧ (¬ h 26 o a1 ≤ t45 → t51 = h 26 o a1)) → V G p l e (rmD 2 0) s m args below meth c (MQ below (QV G P) args s 0 0 (va_Aof G)) 7 160 [(16, o), (0, a1), (0, h 37 1 a1), (1, 0), (1, 0), (1, 0), (1, 0)] [(0, t51)] h 0 := by
        intro t51 he
        replace hw := hw t51 he
        clear he
        refine V.istore hc dX6_wake_160 rfl (lo' := [(16, o), (0, a1), (0, h 37 1 a1), (1, 0), (1, 0), (0, t51), (1, 0)]) rfl ?_
        refine V.aload_n (t := 6) hc dX6_wake_162 rfl rfl ?_
        refine V.gR hc gR_X6_37 (i' := o) rfl dX6_wake_163 ?_
        refine V.iload_n hc dX6_wake_166 rfl rfl ?_
        refine V.iload hc dX6_wake_167 rfl ?_
        obtain ⟨g54, hw⟩ := hw
        refine V.ast hc ak_26 g54 dX6_wake_169 (fun h53 e => ?_)
        replace hw := hw h53 e
        clear e
        refine V.aload_n (t := 6) hc dX6_wake_170 rfl rfl ?_
        refine V.gR hc gR_X6_40 (i' := o) rfl dX6_wake_171 ?_
        refine V.iload_n hc dX6_wake_174 rfl rfl ?_
        refine V.iload hc dX6_wake_175 rfl ?_
        refine V.aload_n (t := 6) hc dX6_wake_177 rfl rfl ?_
        refine V.gR hc gR_X6_40 (i' := o) rfl dX6_wake_178 ?_
        refine V.iload_n hc dX6_wake_181 rfl rfl ?_
        obtain ⟨g55, hw⟩ := hw
        refine V.ald hc ak_27 g55 dX6_wake_182 ?_
        obtain ⟨q60, hw⟩ := hw
        have kJ69 : ∀ t59 : Int, ((t51 ≤ h53 27 o (h 37 1 a1) → t59 = h53 27 o (h 37 1 a1)) ∧ (¬ t51 ≤ h53 27 o (h 37 1 a1) → t59 = t51)) → V G p l e (rmD 2 0) s m args below meth c (MQ below (QV G P) args s 0 0 (va_Aof G)) 7 197 [(16, o), (0, a1), (1, 0), (1, 0), (1, 0), (0, t51), (1, 0)] [(0, t59), (0, h 37 1 a1), (37, o)] h53 0 := by
          intro t59 he
          replace hw := hw t59 he
          clear he
          obtain ⟨g62, hw⟩ := hw
          refine V.ast hc ak_27 g62 dX6_wake_197 (fun h61 e => ?_)
          replace hw := hw h61 e
          clear e
          refine V.aload_n (t := 6) hc dX6_wake_198 rfl rfl ?_
          refine V.gR hc gR_X6_61 (i' := o) rfl dX6_wake_199 ?_
          refine V.iload_n hc dX6_wake_202 rfl rfl ?_
          refine V.iconst hc dX6_wake_203 ?_
          refine V.imul hc dX6_wake_204 ?_
          refine V.iconst hc dX6_wake_205 ?_
          refine V.iadd hc dX6_wake_206 ?_
          refine V.iload hc dX6_wake_207 rfl ?_
          refine V.aload_n (t := 6) hc dX6_wake_209 rfl rfl ?_
          refine V.gR hc gR_X6_30 (i' := o) rfl dX6_wake_210 ?_
          refine V.iload_n hc dX6_wake_213 rfl rfl ?_
          obtain ⟨g63, hw⟩ := hw
          refine V.ald hc ak_24 g63 dX6_wake_214 ?_
          refine V.callVV hc (qX1_lay G l _ _ _ _ _ _ hw) mo_X1_lay ml_X6_145 (by rfl) rfl rfl (as := [(0, (a1 * 3) + 1), (0, t51), (0, h61 24 o a1)]) rfl rfl rfl rfl rfl ⟨Nat.zero_le _, Nat.zero_le _⟩ dX6_wake_215 (fun h64 hw => ?_)
          refine V.aload_n (t := 6) hc dX6_wake_218 rfl rfl ?_
          refine V.gR hc gR_X6_61 (i' := o) rfl dX6_wake_219 ?_
          refine V.iload_n hc dX6_wake_222 rfl rfl ?_
          refine V.iconst hc dX6_wake_223 ?_
          refine V.imul hc dX6_wake_224 ?_
          refine V.iconst hc dX6_wake_225 ?_
          refine V.iadd hc dX6_wake_226 ?_
          refine V.aload_n (t := 6) hc dX6_wake_227 rfl rfl ?_
          refine V.gI hc gI_X6_9 rfl dX6_wake_228 ?_
          refine V.aload_n (t := 6) hc dX6_wake_231 rfl rfl ?_
          refine V.gR hc gR_X6_30 (i' := o) rfl dX6_wake_232 ?_
          refine V.iload_n hc dX6_wake_235 rfl rfl ?_
          obtain ⟨g65, hw⟩ := hw
          refine V.ald hc ak_24 g65 dX6_wake_236 ?_
          refine V.callVV hc (qX1_lay G l _ _ _ _ _ _ hw) mo_X1_lay ml_X6_145 (by rfl) rfl rfl (as := [(0, (a1 * 3) + 2), (0, h64 6 o 1), (0, h64 24 o a1)]) rfl rfl rfl rfl rfl ⟨Nat.zero_le _, Nat.zero_le _⟩ dX6_wake_237 (fun h66 hw => ?_)
          refine V.aload_n (t := 6) hc dX6_wake_240 rfl rfl ?_
          refine V.gR hc gR_X6_61 (i' := o) rfl dX6_wake_241 ?_
          refine V.iload_n hc dX6_wake_244 rfl rfl ?_
          refine V.iconst hc dX6_wake_245 ?_
          refine V.imul hc dX6_wake_246 ?_
          refine V.iconst hc dX6_wake_247 ?_
          refine V.iadd hc dX6_wake_248 ?_
          refine V.aload_n (t := 6) hc dX6_wake_249 rfl rfl ?_
          refine V.gI hc gI_X6_9 rfl dX6_wake_250 ?_
          refine V.aload_n (t := 6) hc dX6_wake_253 rfl rfl ?_
          refine V.gR hc gR_X6_34 (i' := o) rfl dX6_wake_254 ?_
          refine V.iload_n hc dX6_wake_257 rfl rfl ?_
          obtain ⟨g67, hw⟩ := hw
          refine V.ald hc ak_25 g67 dX6_wake_258 ?_
          refine V.callVV hc (qX1_lay G l _ _ _ _ _ _ hw) mo_X1_lay ml_X6_145 (by rfl) rfl rfl (as := [(0, (a1 * 3) + 0), (0, h66 6 o 1), (0, h66 25 o a1)]) rfl rfl rfl rfl rfl ⟨Nat.zero_le _, Nat.zero_le _⟩ dX6_wake_259 (fun h68 hw => ?_)
          exact V.vret hc hr dX6_wake_262 hw
        obtain ⟨g56, g57, q70⟩ := q60
        refine V.icmp_le hc (tgt := 191) dX6_wake_183 (by decide) g56 g57 (fun c71 => ?_) (fun c71 => ?_)
        · have q72 := q70 c71
          have g58 := q72
          refine V.aload_n (t := 6) hc dX6_wake_191 rfl rfl ?_
          refine V.gR hc gR_X6_40 (i' := o) rfl dX6_wake_192 ?_
          refine V.iload_n hc dX6_wake_195 rfl rfl ?_
          refine V.ald hc ak_27 g58 dX6_wake_196 ?_
          refine V.drop (lo' := [(16, o), (0, a1), (1, 0), (1, 0), (1, 0), (0, t51), (1, 0)]) ⟨Or.inr rfl, Or.inr rfl, Or.inl rfl, Or.inr rfl, Or.inr rfl, Or.inr rfl, Or.inr rfl, trivial⟩ ?_
          exact kJ69 _ ⟨fun _ => rfl, (fun q => absurd c71 q)⟩
        · refine V.iload hc dX6_wake_186 rfl ?_
          refine V.goto hc (tgt := 197) dX6_wake_188 (by decide) ?_
          refine V.drop (lo' := [(16, o), (0, a1), (1, 0), (1, 0), (1, 0), (0, t51), (1, 0)]) ⟨Or.inr rfl, Or.inr rfl, Or.inl rfl, Or.inr rfl, Or.inr rfl, Or.inr rfl, Or.inr rfl, trivial⟩ ?_
          exact kJ69 _ ⟨(fun q => absurd q c71), fun _ => rfl⟩
      obtain ⟨g48, g49, q74⟩ := q52
      refine V.icmp_le hc (tgt := 158) dX6_wake_146 (by decide) g48 g49 (fun c75 => ?_) (fun c75 => ?_)
      · refine V.iload hc dX6_wake_158 rfl ?_
        refine V.drop (lo' := [(16, o), (0, a1), (0, h 37 1 a1), (1, 0), (1, 0), (1, 0), (1, 0)]) ⟨Or.inr rfl, Or.inr rfl, Or.inr rfl, Or.inr rfl, Or.inr rfl, Or.inl rfl, Or.inr rfl, trivial⟩ ?_
        exact kJ73 _ ⟨fun _ => rfl, (fun q => absurd c75 q)⟩
      · have q76 := q74 c75
        have g50 := q76
        refine V.aload_n (t := 6) hc dX6_wake_149 rfl rfl ?_
        refine V.gR hc gR_X6_37 (i' := o) rfl dX6_wake_150 ?_
        refine V.iload_n hc dX6_wake_153 rfl rfl ?_
        refine V.ald hc ak_26 g50 dX6_wake_154 ?_
        refine V.goto hc (tgt := 160) dX6_wake_155 (by decide) ?_
        refine V.drop (lo' := [(16, o), (0, a1), (0, h 37 1 a1), (1, 0), (1, 0), (1, 0), (1, 0)]) ⟨Or.inr rfl, Or.inr rfl, Or.inr rfl, Or.inr rfl, Or.inr rfl, Or.inl rfl, Or.inr rfl, trivial⟩ ?_
        exact kJ73 _ ⟨(fun q => absurd q c75), fun _ => rfl⟩
    obtain ⟨g42, q78, q79⟩ := q46
    refine V.icmp_ne hc (tgt := 130) dX6_wake_118 (by decide) g42 (by omega) (fun c80 => ?_) (fun c80 => ?_)
    · have q81 := q78 c80
      have g43 := q81
      refine V.iload_n hc dX6_wake_130 rfl rfl ?_
      refine V.iload hc dX6_wake_131 rfl ?_
      refine V.iadd hc dX6_wake_133 ?_
      refine V.iconst hc dX6_wake_134 ?_
      refine V.idiv hc g43 (by omega) dX6_wake_135 ?_
      refine V.drop (lo' := [(16, o), (0, a1), (0, h 37 1 a1), (1, 0), (1, 0), (1, 0), (1, 0)]) ⟨Or.inr rfl, Or.inr rfl, Or.inr rfl, Or.inl rfl, Or.inl rfl, Or.inr rfl, Or.inr rfl, trivial⟩ ?_
      exact kJ77 _ ⟨fun _ => rfl, (fun q => absurd q c80)⟩
    · have q82 := q79 c80
      have g44 := q82
      refine V.aload_n (t := 6) hc dX6_wake_121 rfl rfl ?_
      refine V.gR hc gR_X6_40 (i' := o) rfl dX6_wake_122 ?_
      refine V.iload_n hc dX6_wake_125 rfl rfl ?_
      refine V.ald hc ak_27 g44 dX6_wake_126 ?_
      refine V.goto hc (tgt := 136) dX6_wake_127 (by decide) ?_
      refine V.drop (lo' := [(16, o), (0, a1), (0, h 37 1 a1), (1, 0), (1, 0), (1, 0), (1, 0)]) ⟨Or.inr rfl, Or.inr rfl, Or.inr rfl, Or.inl rfl, Or.inl rfl, Or.inr rfl, Or.inr rfl, trivial⟩ ?_
      exact kJ77 _ ⟨(fun q => absurd c80 q), fun _ => rfl⟩
theorem tX6_accept_81 {G : GG} {p : Program} {l : Launch} {e : Jvm.Env} {s : State} {m : MethodId} {args : Array Value} {below : List Frame} {meth : Method} {c : Code} {P : HP → Prop} (hc : VC G p (rmD 3 0) s m args meth c RX6 cX6_accept 5 3) (hr : meth.sig.returnType = none) {o : Int} {a1 : Int} {a2 : Int} {l3 : Int} {l4 : Int} {h : HP} {K54 : Int → Int → HP → Prop} (hK54 : ∀ (x3 : Int) (x4 : Int) (h : HP), K54 x3 x4 h → V G p l e (rmD 3 0) s m args below meth c (MQ below (QV G P) args s 0 0 (va_Aof G)) 5 54 [(16, o), (1, 0), (1, 0), (0, x3), (0, x4)] [] h 0) (hw : wX6_accept_81 o a1 a2 l3 l4 K54 h) : V G p l e (rmD 3 0) s m args below meth c (MQ below (QV G P) args s 0 0 (va_Aof G)) 5 81 [(16, o), (1, 0), (1, 0), (0, l3), (0, l4)] [] h 0 := by
  refine V.aload_n (t := 6) hc dX6_accept_81 rfl rfl ?_
  refine V.gR hc gR_X6_46 (i' := o) rfl dX6_accept_82 ?_
  refine V.iload_n hc dX6_accept_85 rfl rfl ?_
  refine V.dup2 hc dX6_accept_86 (by simp) (by simp) ?_
  obtain ⟨g16, hw⟩ := hw
  refine V.ald hc ak_29 g16 dX6_accept_87 ?_
  refine V.iconst hc dX6_accept_88 ?_
  refine V.iadd hc dX6_accept_89 ?_
  obtain ⟨g18, hw⟩ := hw
  refine V.ast hc ak_29 g18 dX6_accept_90 (fun h17 e => ?_)
  replace hw := hw h17 e
  clear e
  refine V.aload_n (t := 6) hc dX6_accept_91 rfl rfl ?_
  refine V.gR hc gR_X6_68 (i' := 1) rfl dX6_accept_92 ?_
  refine V.gR hc gR_X6_137 (i' := 1) rfl dX6_accept_95 ?_
  refine V.iload_n hc dX6_accept_98 rfl rfl ?_
  obtain ⟨g19, hw⟩ := hw
  refine V.ald hc ak_37 g19 dX6_accept_99 ?_
  refine V.istore_n hc dX6_accept_100 rfl rfl (lo' := [(16, o), (1, 0), (1, 0), (0, h17 37 1 l3), (0, l4)]) rfl ?_
  refine V.iinc hc dX6_accept_101 rfl rfl (lo' := [(16, o), (1, 0), (1, 0), (0, h17 37 1 l3), (0, l4 + 1)]) rfl ?_
  refine V.goto hc (tgt := 54) dX6_accept_104 (by decide) ?_
  exact hK54 _ _ _ hw
theorem tX6_accept_54 {G : GG} {p : Program} {l : Launch} {e : Jvm.Env} {s : State} {m : MethodId} {args : Array Value} {below : List Frame} {meth : Method} {c : Code} {P : HP → Prop} (hc : VC G p (rmD 3 0) s m args meth c RX6 cX6_accept 5 3) (hr : meth.sig.returnType = none) {o : Int} {a1 : Int} {a2 : Int} {K107 : HP → Prop} (hK107 : ∀  (h : HP), K107  h → V G p l e (rmD 3 0) s m args below meth c (MQ below (QV G P) args s 0 0 (va_Aof G)) 5 107 [(16, o), (1, 0), (1, 0), (1, 0), (1, 0)] [] h 0) : ∀ (f : Nat) (l3 : Int) (l4 : Int) (h : HP), wX6_accept_54 o a1 a2 K107 f l3 l4 h → V G p l e (rmD 3 0) s m args below meth c (MQ below (QV G P) args s 0 0 (va_Aof G)) 5 54 [(16, o), (1, 0), (1, 0), (0, l3), (0, l4)] [] h 0 := by
  intro f
  induction f with
  | zero =>
    intro l3 l4 h hw
    exact hw.elim
  | succ f ih =>
    intro l3 l4 h hw
    refine V.iload hc dX6_accept_54 rfl ?_
    refine V.bipush hc dX6_accept_56 (by decide) ?_
    obtain ⟨g9, hw⟩ := hw
    refine V.icmp_ge hc (tgt := 107) dX6_accept_58 (by decide) g9 (by omega) (fun c10 => ?_) (fun c10 => ?_)
    · replace hw := hw.1 c10
      refine V.drop (lo' := [(16, o), (1, 0), (1, 0), (1, 0), (1, 0)]) ⟨Or.inr rfl, Or.inr rfl, Or.inr rfl, Or.inl rfl, Or.inl rfl, trivial⟩ ?_
      exact hK107 _ hw
    · replace hw := hw.2 c10
      refine V.iload_n hc dX6_accept_61 rfl rfl ?_
      refine V.bipush hc dX6_accept_62 (by decide) ?_
      obtain ⟨g11, hw⟩ := hw
      refine V.icmp_eq hc (tgt := 107) dX6_accept_64 (by decide) g11 (by omega) (fun c12 => ?_) (fun c12 => ?_)
      · replace hw := hw.1 c12
        refine V.drop (lo' := [(16, o), (1, 0), (1, 0), (1, 0), (1, 0)]) ⟨Or.inr rfl, Or.inr rfl, Or.inr rfl, Or.inl rfl, Or.inl rfl, trivial⟩ ?_
        exact hK107 _ hw
      · replace hw := hw.2 c12
        refine V.aload_n (t := 6) hc dX6_accept_67 rfl rfl ?_
        refine V.gR hc gR_X6_46 (i' := o) rfl dX6_accept_68 ?_
        refine V.iload_n hc dX6_accept_71 rfl rfl ?_
        obtain ⟨g13, hw⟩ := hw
        refine V.ald hc ak_29 g13 dX6_accept_72 ?_
        obtain ⟨g14, hw⟩ := hw
        refine V.if_ne hc (tgt := 81) dX6_accept_73 (by decide) g14 (fun c15 => ?_) (fun c15 => ?_)
        · replace hw := hw.1 c15
          exact tX6_accept_81 hc hr (fun y3 y4 hy hw => by exact ih _ _ _ hw) hw
        · replace hw := hw.2 c15
          refine V.aload_n (t := 6) hc dX6_accept_76 rfl rfl ?_
          refine V.iload_n hc dX6_accept_77 rfl rfl ?_
          refine V.callVV hc (qX6_wake G l _ _ _ _ hw) mo_X6_wake ml_X6_140 (by rfl) rfl rfl (as := [(0, l3)]) rfl rfl rfl rfl rfl ⟨Nat.zero_le _, Nat.zero_le _⟩ dX6_accept_78 (fun h20 hw => ?_)
          exact tX6_accept_81 hc hr (fun y3 y4 hy hw => by exact ih _ _ _ hw) hw
theorem qX6_accept (G : GG) (l : Launch) (o : Int) (a1 : Int) (a2 : Int) (h : HP) (P : HP → Prop) (hw : wX6_accept o a1 a2 h P) : CnV l G yX6_accept cX6_accept 5 3 [(16, o), (0, a1), (0, a2)] h P := by
  refine CnV.of (lo := [(16, o), (0, a1), (0, a2), (1, 0), (1, 0)]) (by decide) rfl rfl rfl ?_
  intro p e s m args below meth c hc hr
  have hc : VC G p (rmD 3 0) s m args meth c RX6 cX6_accept 5 3 := hc
  refine V.aload_n (t := 6) hc dX6_accept_0 rfl rfl ?_
  refine V.gR hc gR_X6_46 (i' := o) rfl dX6_accept_1 ?_
  refine V.iload_n hc dX6_accept_4 rfl rfl ?_
  obtain ⟨g1, hw⟩ := hw
  refine V.ald hc ak_29 g1 dX6_accept_5 ?_
  refine V.bipush hc dX6_accept_6 (by decide) ?_
  obtain ⟨g2, hw⟩ := hw
  refine V.icmp_lt hc (tgt := 22) dX6_accept_8 (by decide) g2 (by omega) (fun c3 => ?_) (fun c3 => ?_)
  · replace hw := hw.1 c3
    refine V.aload_n (t := 6) hc dX6_accept_22 rfl rfl ?_
    refine V.gR hc gR_X6_49 (i' := o) rfl dX6_accept_23 ?_
    refine V.iload_n hc dX6_accept_26 rfl rfl ?_
    refine V.bipush hc dX6_accept_27 (by decide) ?_
    refine V.imul hc dX6_accept_29 ?_
    refine V.aload_n (t := 6) hc dX6_accept_30 rfl rfl ?_
    refine V.gR hc gR_X6_52 (i' := o) rfl dX6_accept_31 ?_
    refine V.iload_n hc dX6_accept_34 rfl rfl ?_
    obtain ⟨g4, hw⟩ := hw
    refine V.ald hc ak_31 g4 dX6_accept_35 ?_
    refine V.aload_n (t := 6) hc dX6_accept_36 rfl rfl ?_
    refine V.gR hc gR_X6_46 (i' := o) rfl dX6_accept_37 ?_
    refine V.iload_n hc dX6_accept_40 rfl rfl ?_
    obtain ⟨g5, hw⟩ := hw
    refine V.ald hc ak_29 g5 dX6_accept_41 ?_
    refine V.iadd hc dX6_accept_42 ?_
    refine V.bipush hc dX6_accept_43 (by decide) ?_
    obtain ⟨g6, hw⟩ := hw
    refine V.irem hc g6 (by omega) dX6_accept_45 ?_
    refine V.iadd hc dX6_accept_46 ?_
    refine V.iload_n hc dX6_accept_47 rfl rfl ?_
    obtain ⟨g8, hw⟩ := hw
    refine V.ast hc ak_30 g8 dX6_accept_48 (fun h7 e => ?_)
    replace hw := hw h7 e
    clear e
    refine V.iload_n hc dX6_accept_49 rfl rfl ?_
    refine V.istore_n hc dX6_accept_50 rfl rfl (lo' := [(16, o), (0, a1), (0, a2), (0, a1), (1, 0)]) rfl ?_
    refine V.iconst hc dX6_accept_51 ?_
    refine V.istore hc dX6_accept_52 rfl (lo' := [(16, o), (0, a1), (0, a2), (0, a1), (0, 0)]) rfl ?_
    obtain ⟨f21, hw⟩ := hw
    refine V.drop (lo' := [(16, o), (1, 0), (1, 0), (0, a1), (0, 0)]) ⟨Or.inr rfl, Or.inl rfl, Or.inl rfl, Or.inr rfl, Or.inr rfl, trivial⟩ ?_
    refine tX6_accept_54 hc hr ?_ f21 _ _ _ hw
    · intro h22 hw
      refine V.aload_n (t := 6) hc dX6_accept_107 rfl rfl ?_
      refine V.gR hc gR_X6_46 (i' := o) rfl dX6_accept_108 ?_
      refine V.bipush hc dX6_accept_111 (by decide) ?_
      refine V.dup2 hc dX6_accept_113 (by simp) (by simp) ?_
      refine V.ald hc ak_29 (by omega) dX6_accept_114 ?_
      refine V.iconst hc dX6_accept_115 ?_
      refine V.iadd hc dX6_accept_116 ?_
      refine V.ast hc ak_29 (by omega) dX6_accept_117 (fun h23 e => ?_)
      replace hw := hw h23 e
      clear e
      exact V.vret hc hr dX6_accept_118 hw
  · replace hw := hw.2 c3
    refine V.aload_n (t := 6) hc dX6_accept_11 rfl rfl ?_
    refine V.gR hc gR_X6_43 (i' := o) rfl dX6_accept_12 ?_
    refine V.iload_n hc dX6_accept_15 rfl rfl ?_
    refine V.dup2 hc dX6_accept_16 (by simp) (by simp) ?_
    obtain ⟨g24, hw⟩ := hw
    refine V.ald hc ak_28 g24 dX6_accept_17 ?_
    refine V.iconst hc dX6_accept_18 ?_
    refine V.iadd hc dX6_accept_19 ?_
    obtain ⟨g26, hw⟩ := hw
    refine V.ast hc ak_28 g26 dX6_accept_20 (fun h25 e => ?_)
    replace hw := hw h25 e
    clear e
    exact V.vret hc hr dX6_accept_21 hw
theorem qX1_put (G : GG) (l : Launch) (o : Int) (a1 : Int) (a2 : Int) (a3 : Int) (a4 : Int) (h : HP) (P : HP → Prop) (hw : wX1_put o a1 a2 a3 a4 h P) : CnV l G yX1_put cX1_put 6 2 [(11, o), (0, a1), (0, a2), (0, a3), (0, a4)] h P := by
  refine CnV.of (lo := [(11, o), (0, a1), (0, a2), (0, a3), (0, a4), (1, 0)]) (by decide) rfl rfl rfl ?_
  intro p e s m args below meth c hc hr
  have hc : VC G p (rmD 2 0) s m args meth c RX1 cX1_put 6 2 := hc
  refine V.aload_n (t := 1) hc dX1_put_0 rfl rfl ?_
  refine V.gR hc gR_X1_11 (i' := o) rfl dX1_put_1 ?_
  refine V.iload_n hc dX1_put_4 rfl rfl ?_
  refine V.iload_n hc dX1_put_5 rfl rfl ?_
  obtain ⟨g2, hw⟩ := hw
  refine V.ast hc ak_13 g2 dX1_put_6 (fun h1 e => ?_)
  replace hw := hw h1 e
  clear e
  refine V.aload_n (t := 1) hc dX1_put_7 rfl rfl ?_
  refine V.gR hc gR_X1_15 (i' := o) rfl dX1_put_8 ?_
  refine V.iload_n hc dX1_put_11 rfl rfl ?_
  refine V.iload_n hc dX1_put_12 rfl rfl ?_
  obtain ⟨g4, hw⟩ := hw
  refine V.ast hc ak_14 g4 dX1_put_13 (fun h3 e => ?_)
  replace hw := hw h3 e
  clear e
  refine V.aload_n (t := 1) hc dX1_put_14 rfl rfl ?_
  refine V.gR hc gR_X1_18 (i' := o) rfl dX1_put_15 ?_
  refine V.iload_n hc dX1_put_18 rfl rfl ?_
  refine V.iload hc dX1_put_19 rfl ?_
  obtain ⟨g6, hw⟩ := hw
  refine V.ast hc ak_15 g6 dX1_put_21 (fun h5 e => ?_)
  replace hw := hw h5 e
  clear e
  refine V.iload_n hc dX1_put_22 rfl rfl ?_
  obtain ⟨q11, hw⟩ := hw
  have kJ25 : ∀ t10 : Int, ((a3 = 0 → t10 = 1) ∧ (¬ a3 = 0 → ((¬ a2 = a4 → t10 = 0) ∧ (a2 = a4 → t10 = 1)))) → V G p l e (rmD 2 0) s m args below meth c (MQ below (QV G P) args s 0 0 (va_Aof G)) 6 37 [(11, o), (0, a1), (0, a2), (0, a3), (1, 0), (1, 0)] [(0, t10)] h5 0 := by
    intro t10 he
    replace hw := hw t10 he
    clear he
    refine V.istore hc dX1_put_37 rfl (lo' := [(11, o), (0, a1), (0, a2), (0, a3), (1, 0), (0, t10)]) rfl ?_
    refine V.aload_n (t := 1) hc dX1_put_39 rfl rfl ?_
    refine V.gR hc gR_X1_21 (i' := o) rfl dX1_put_40 ?_
    refine V.iload_n hc dX1_put_43 rfl rfl ?_
    refine V.iload hc dX1_put_44 rfl ?_
    obtain ⟨q16, hw⟩ := hw
    have kJ21 : ∀ t15 : Int, ((t10 = 0 → t15 = max 1 (((a2 * a3) + 99) / 100)) ∧ (¬ t10 = 0 → t15 = 0)) → V G p l e (rmD 2 0) s m args below meth c (MQ below (QV G P) args s 0 0 (va_Aof G)) 6 66 [(11, o), (0, a1), (1, 0), (1, 0), (1, 0), (1, 0)] [(0, t15), (0, a1), (26, o)] h5 0 := by
      intro t15 he
      replace hw := hw t15 he
      clear he
      obtain ⟨g18, hw⟩ := hw
      refine V.ast hc ak_16 g18 dX1_put_66 (fun h17 e => ?_)
      replace hw := hw h17 e
      clear e
      refine V.aload_n (t := 1) hc dX1_put_67 rfl rfl ?_
      refine V.gR hc gR_X1_24 (i' := o) rfl dX1_put_68 ?_
      refine V.iload_n hc dX1_put_71 rfl rfl ?_
      refine V.iconst hc dX1_put_72 ?_
      obtain ⟨g20, hw⟩ := hw
      refine V.ast hc ak_17 g20 dX1_put_73 (fun h19 e => ?_)
      replace hw := hw h19 e
      clear e
      exact V.vret hc hr dX1_put_74 hw
    obtain ⟨g12, q22⟩ := q16
    refine V.if_eq hc (tgt := 53) dX1_put_46 (by decide) g12 (fun c23 => ?_) (fun c23 => ?_)
    · have q24 := q22 c23
      obtain ⟨g13, g14⟩ := q24
      refine V.iconst hc dX1_put_53 ?_
      refine V.iload_n hc dX1_put_54 rfl rfl ?_
      refine V.iload_n hc dX1_put_55 rfl rfl ?_
      refine V.imul hc dX1_put_56 ?_
      refine V.bipush hc dX1_put_57 (by decide) ?_
      refine V.iadd hc dX1_put_59 ?_
      refine V.bipush hc dX1_put_60 (by decide) ?_
      refine V.idiv hc g13 (by omega) dX1_put_62 ?_
      refine V.mmax hc ml_X1_43 rfl rfl (by omega) g14 dX1_put_63 ?_
      refine V.drop (lo' := [(11, o), (0, a1), (1, 0), (1, 0), (1, 0), (1, 0)]) ⟨Or.inr rfl, Or.inr rfl, Or.inl rfl, Or.inl rfl, Or.inr rfl, Or.inl rfl, trivial⟩ ?_
      exact kJ21 _ ⟨fun _ => rfl, (fun q => absurd c23 q)⟩
    · refine V.iconst hc dX1_put_49 ?_
      refine V.goto hc (tgt := 66) dX1_put_50 (by decide) ?_
      refine V.drop (lo' := [(11, o), (0, a1), (1, 0), (1, 0), (1, 0), (1, 0)]) ⟨Or.inr rfl, Or.inr rfl, Or.inl rfl, Or.inl rfl, Or.inr rfl, Or.inl rfl, trivial⟩ ?_
      exact kJ21 _ ⟨(fun q => absurd q c23), fun _ => rfl⟩
  obtain ⟨g7, q26⟩ := q11
  refine V.if_eq hc (tgt := 32) dX1_put_23 (by decide) g7 (fun c27 => ?_) (fun c27 => ?_)
  · refine V.iconst hc dX1_put_32 ?_
    refine V.goto hc (tgt := 37) dX1_put_33 (by decide) ?_
    refine V.drop (lo' := [(11, o), (0, a1), (0, a2), (0, a3), (1, 0), (1, 0)]) ⟨Or.inr rfl, Or.inr rfl, Or.inr rfl, Or.inr rfl, Or.inl rfl, Or.inr rfl, trivial⟩ ?_
    exact kJ25 _ ⟨fun _ => rfl, (fun q => absurd c27 q)⟩
  · have q28 := q26 c27
    obtain ⟨g8, g9⟩ := q28
    refine V.iload_n hc dX1_put_26 rfl rfl ?_
    refine V.iload hc dX1_put_27 rfl ?_
    refine V.icmp_ne hc (tgt := 36) dX1_put_29 (by decide) g8 g9 (fun c29 => ?_) (fun c29 => ?_)
    · refine V.iconst hc dX1_put_36 ?_
      refine V.drop (lo' := [(11, o), (0, a1), (0, a2), (0, a3), (1, 0), (1, 0)]) ⟨Or.inr rfl, Or.inr rfl, Or.inr rfl, Or.inr rfl, Or.inl rfl, Or.inr rfl, trivial⟩ ?_
      exact kJ25 _ ⟨(fun q => absurd q c27), fun _ => ⟨fun _ => rfl, (fun q => absurd q c29)⟩⟩
    · refine V.iconst hc dX1_put_32 ?_
      refine V.goto hc (tgt := 37) dX1_put_33 (by decide) ?_
      refine V.drop (lo' := [(11, o), (0, a1), (0, a2), (0, a3), (1, 0), (1, 0)]) ⟨Or.inr rfl, Or.inr rfl, Or.inr rfl, Or.inr rfl, Or.inl rfl, Or.inr rfl, trivial⟩ ?_
      exact kJ25 _ ⟨(fun q => absurd q c27), fun _ => ⟨(fun q => absurd c29 q), fun _ => rfl⟩⟩
theorem qX6_changeCurve (G : GG) (l : Launch) (o : Int) (a1 : Int) (a2 : Int) (a3 : Int) (a4 : Int) (a5 : Int) (h : HP) (P : HP → Prop) (hw : wX6_changeCurve o a1 a2 a3 a4 a5 h P) : CnV l G yX6_changeCurve cX6_changeCurve 7 3 [(16, o), (0, a1), (0, a2), (0, a3), (0, a4), (0, a5)] h P := by
  refine CnV.of (lo := [(16, o), (0, a1), (0, a2), (0, a3), (0, a4), (0, a5), (1, 0)]) (by decide) rfl rfl rfl ?_
  intro p e s m args below meth c hc hr
  have hc : VC G p (rmD 3 0) s m args meth c RX6 cX6_changeCurve 7 3 := hc
  refine V.iload_n hc dX6_changeCurve_0 rfl rfl ?_
  refine V.iconst hc dX6_changeCurve_1 ?_
  refine V.imul hc dX6_changeCurve_2 ?_
  refine V.iload_n hc dX6_changeCurve_3 rfl rfl ?_
  refine V.iadd hc dX6_changeCurve_4 ?_
  refine V.istore hc dX6_changeCurve_5 rfl (lo' := [(16, o), (0, a1), (0, a2), (0, a3), (0, a4), (0, a5), (0, (a1 * 3) + a2)]) rfl ?_
  refine V.aload_n (t := 6) hc dX6_changeCurve_7 rfl rfl ?_
  refine V.gR hc gR_X6_61 (i' := o) rfl dX6_changeCurve_8 ?_
  refine V.iload hc dX6_changeCurve_11 rfl ?_
  refine V.iload_n hc dX6_changeCurve_13 rfl rfl ?_
  refine V.iload hc dX6_changeCurve_14 rfl ?_
  refine V.iload hc dX6_changeCurve_16 rfl ?_
  refine V.callVV hc (qX1_put G l _ _ _ _ _ _ _ hw) mo_X1_put ml_X6_182 (by rfl) rfl rfl (as := [(0, (a1 * 3) + a2), (0, a3), (0, a4), (0, a5)]) rfl rfl rfl rfl rfl ⟨Nat.zero_le _, Nat.zero_le _⟩ dX6_changeCurve_18 (fun h1 hw => ?_)
  refine V.aload_n (t := 6) hc dX6_changeCurve_21 rfl rfl ?_
  refine V.gR hc gR_X6_46 (i' := o) rfl dX6_changeCurve_22 ?_
  refine V.iload_n hc dX6_changeCurve_25 rfl rfl ?_
  obtain ⟨g2, hw⟩ := hw
  refine V.ald hc ak_29 g2 dX6_changeCurve_26 ?_
  obtain ⟨g3, hw⟩ := hw
  refine V.if_le hc (tgt := 76) dX6_changeCurve_27 (by decide) g3 (fun c4 => ?_) (fun c4 => ?_)
  · replace hw := hw.1 c4
    exact V.vret hc hr dX6_changeCurve_76 hw
  · replace hw := hw.2 c4
    refine V.aload_n (t := 6) hc dX6_changeCurve_30 rfl rfl ?_
    refine V.gR hc gR_X6_61 (i' := o) rfl dX6_changeCurve_31 ?_
    refine V.iload hc dX6_changeCurve_34 rfl ?_
    refine V.iload_n hc dX6_changeCurve_36 rfl rfl ?_
    refine V.iconst hc dX6_changeCurve_37 ?_
    obtain ⟨q8, hw⟩ := hw
    have kJ21 : ∀ t7 : Int, ((¬ a2 = 1 → t7 = h1 6 o 1) ∧ (a2 = 1 → t7 = h1 26 o a1)) → V G p l e (rmD 3 0) s m args below meth c (MQ below (QV G P) args s 0 0 (va_Aof G)) 7 54 [(16, o), (0, a1), (0, a2), (1, 0), (1, 0), (1, 0), (1, 0)] [(0, t7), (0, (a1 * 3) + a2), (11, o)] h1 0 := by
      intro t7 he
      replace hw := hw t7 he
      clear he
      refine V.iload_n hc dX6_changeCurve_54 rfl rfl ?_
      obtain ⟨q13, hw⟩ := hw
      have kJ15 : ∀ t12 : Int, ((¬ a2 = 0 → t12 = h1 24 o a1) ∧ (a2 = 0 → t12 = h1 25 o a1)) → V G p l e (rmD 3 0) s m args below meth c (MQ below (QV G P) args s 0 0 (va_Aof G)) 7 73 [(1, 0), (1, 0), (1, 0), (1, 0), (1, 0), (1, 0), (1, 0)] [(0, t12), (0, t7), (0, (a1 * 3) + a2), (11, o)] h1 0 := by
        intro t12 he
        replace hw := hw t12 he
        clear he
        refine V.callVV hc (qX1_lay G l _ _ _ _ _ _ hw) mo_X1_lay ml_X6_145 (by rfl) rfl rfl (as := [(0, (a1 * 3) + a2), (0, t7), (0, t12)]) rfl rfl rfl rfl rfl ⟨Nat.zero_le _, Nat.zero_le _⟩ dX6_changeCurve_73 (fun h14 hw => ?_)
        exact V.vret hc hr dX6_changeCurve_76 hw
      obtain ⟨g9, q16, q17⟩ := q13
      refine V.if_ne hc (tgt := 67) dX6_changeCurve_55 (by decide) g9 (fun c18 => ?_) (fun c18 => ?_)
      · have q19 := q16 c18
        have g10 := q19
        refine V.aload_n (t := 6) hc dX6_changeCurve_67 rfl rfl ?_
        refine V.gR hc gR_X6_30 (i' := o) rfl dX6_changeCurve_68 ?_
        refine V.iload_n hc dX6_changeCurve_71 rfl rfl ?_
        refine V.ald hc ak_24 g10 dX6_changeCurve_72 ?_
        refine V.drop (lo' := [(1, 0), (1, 0), (1, 0), (1, 0), (1, 0), (1, 0), (1, 0)]) ⟨Or.inl rfl, Or.inl rfl, Or.inl rfl, Or.inr rfl, Or.inr rfl, Or.inr rfl, Or.inr rfl, trivial⟩ ?_
        exact kJ15 _ ⟨fun _ => rfl, (fun q => absurd q c18)⟩
      · have q20 := q17 c18
        have g11 := q20
        refine V.aload_n (t := 6) hc dX6_changeCurve_58 rfl rfl ?_
        refine V.gR hc gR_X6_34 (i' := o) rfl dX6_changeCurve_59 ?_
        refine V.iload_n hc dX6_changeCurve_62 rfl rfl ?_
        refine V.ald hc ak_25 g11 dX6_changeCurve_63 ?_
        refine V.goto hc (tgt := 73) dX6_changeCurve_64 (by decide) ?_
        refine V.drop (lo' := [(1, 0), (1, 0), (1, 0), (1, 0), (1, 0), (1, 0), (1, 0)]) ⟨Or.inl rfl, Or.inl rfl, Or.inl rfl, Or.inr rfl, Or.inr rfl, Or.inr rfl, Or.inr rfl, trivial⟩ ?_
        exact kJ15 _ ⟨(fun q => absurd c18 q), fun _ => rfl⟩
    obtain ⟨g5, q22⟩ := q8
    refine V.icmp_ne hc (tgt := 50) dX6_changeCurve_38 (by decide) g5 (by omega) (fun c23 => ?_) (fun c23 => ?_)
    · refine V.aload_n (t := 6) hc dX6_changeCurve_50 rfl rfl ?_
      refine V.gI hc gI_X6_9 rfl dX6_changeCurve_51 ?_
      refine V.drop (lo' := [(16, o), (0, a1), (0, a2), (1, 0), (1, 0), (1, 0), (1, 0)]) ⟨Or.inr rfl, Or.inr rfl, Or.inr rfl, Or.inl rfl, Or.inl rfl, Or.inl rfl, Or.inl rfl, trivial⟩ ?_
      exact kJ21 _ ⟨fun _ => rfl, (fun q => absurd q c23)⟩
    · have q24 := q22 c23
      have g6 := q24
      refine V.aload_n (t := 6) hc dX6_changeCurve_41 rfl rfl ?_
      refine V.gR hc gR_X6_37 (i' := o) rfl dX6_changeCurve_42 ?_
      refine V.iload_n hc dX6_changeCurve_45 rfl rfl ?_
      refine V.ald hc ak_26 g6 dX6_changeCurve_46 ?_
      refine V.goto hc (tgt := 54) dX6_changeCurve_47 (by decide) ?_
      refine V.drop (lo' := [(16, o), (0, a1), (0, a2), (1, 0), (1, 0), (1, 0), (1, 0)]) ⟨Or.inr rfl, Or.inr rfl, Or.inr rfl, Or.inl rfl, Or.inl rfl, Or.inl rfl, Or.inl rfl, trivial⟩ ?_
      exact kJ21 _ ⟨(fun q => absurd c23 q), fun _ => rfl⟩
theorem qX6_packets (G : GG) (l : Launch) (o : Int) (a1 : Int) (h : HP) (P : Int → HP → Prop) (hw : wX6_packets o a1 h P) : CnI l G yX6_packets cX6_packets 2 (some .int) 2 [(16, o), (0, a1)] h P := by
  refine CnI.of (lo := [(16, o), (0, a1)]) (by decide) rfl rfl rfl ?_
  intro p e s m args below meth c hc hr
  have hc : VC G p (rmD 2 0) s m args meth c RX6 cX6_packets 2 2 := hc
  refine V.aload_n (t := 6) hc dX6_packets_0 rfl rfl ?_
  refine V.gR hc gR_X6_68 (i' := 1) rfl dX6_packets_1 ?_
  refine V.iload_n hc dX6_packets_4 rfl rfl ?_
  refine V.callVI hc (qX8_isLeaf G l _ _ _ _ hw) mo_X8_isLeaf ml_X6_106 (by rfl) rfl rfl (as := [(0, a1)]) rfl rfl rfl rfl rfl ⟨Nat.zero_le _, Nat.zero_le _⟩ dX6_packets_5 (fun x2 h1 hw => ?_)
  obtain ⟨q6, hw⟩ := hw
  have kJ7 : ∀ t5 : Int, ((x2 = 0 → t5 = 0) ∧ (¬ x2 = 0 → t5 = h1 29 o a1)) → V G p l e (rmD 2 0) s m args below meth c (MQ below (QI G P) args s 0 0 (va_Aof G)) 2 21 [(1, 0), (1, 0)] [(0, t5)] h1 0 := by
    intro t5 he
    replace hw := hw t5 he
    clear he
    exact V.iret hc hr dX6_packets_21 hw
  obtain ⟨g3, q8⟩ := q6
  refine V.if_eq hc (tgt := 20) dX6_packets_8 (by decide) g3 (fun c9 => ?_) (fun c9 => ?_)
  · refine V.iconst hc dX6_packets_20 ?_
    refine V.drop (lo' := [(1, 0), (1, 0)]) ⟨Or.inl rfl, Or.inl rfl, trivial⟩ ?_
    exact kJ7 _ ⟨fun _ => rfl, (fun q => absurd c9 q)⟩
  · have q10 := q8 c9
    have g4 := q10
    refine V.aload_n (t := 6) hc dX6_packets_11 rfl rfl ?_
    refine V.gR hc gR_X6_46 (i' := o) rfl dX6_packets_12 ?_
    refine V.iload_n hc dX6_packets_15 rfl rfl ?_
    refine V.ald hc ak_29 g4 dX6_packets_16 ?_
    refine V.goto hc (tgt := 21) dX6_packets_17 (by decide) ?_
    refine V.drop (lo' := [(1, 0), (1, 0)]) ⟨Or.inl rfl, Or.inl rfl, trivial⟩ ?_
    exact kJ7 _ ⟨(fun q => absurd q c9), fun _ => rfl⟩
theorem tX6_emptyQueue_12 {G : GG} {p : Program} {l : Launch} {e : Jvm.Env} {s : State} {m : MethodId} {args : Array Value} {below : List Frame} {meth : Method} {c : Code} {P : Int → HP → Prop} (hc : VC G p (rmD 1 0) s m args meth c RX6 cX6_emptyQueue 5 1) (hr : meth.sig.returnType = some .int) {o : Int} {a1 : Int} {l2 : Int} {K51 : HP → Prop} (hK51 : ∀  (h : HP), K51  h → V G p l e (rmD 1 0) s m args below meth c (MQ below (QI G P) args s 0 0 (va_Aof G)) 5 51 [(16, o), (1, 0), (0, l2), (1, 0), (1, 0)] [] h 0) : ∀ (f : Nat) (l3 : Int) (l4 : Int) (h : HP), wX6_emptyQueue_12 o a1 l2 K51 f l3 l4 h → V G p l e (rmD 1 0) s m args below meth c (MQ below (QI G P) args s 0 0 (va_Aof G)) 5 12 [(16, o), (1, 0), (0, l2), (0, l3), (0, l4)] [] h 0 := by
  intro f
  induction f with
  | zero =>
    intro l3 l4 h hw
    exact hw.elim
  | succ f ih =>
    intro l3 l4 h hw
    refine V.iload hc dX6_emptyQueue_12 rfl ?_
    refine V.bipush hc dX6_emptyQueue_14 (by decide) ?_
    obtain ⟨g2, hw⟩ := hw
    refine V.icmp_ge hc (tgt := 51) dX6_emptyQueue_16 (by decide) g2 (by omega) (fun c3 => ?_) (fun c3 => ?_)
    · replace hw := hw.1 c3
      refine V.drop (lo' := [(16, o), (1, 0), (0, l2), (1, 0), (1, 0)]) ⟨Or.inr rfl, Or.inr rfl, Or.inr rfl, Or.inl rfl, Or.inl rfl, trivial⟩ ?_
      exact hK51 _ hw
    · replace hw := hw.2 c3
      refine V.iload_n hc dX6_emptyQueue_19 rfl rfl ?_
      refine V.bipush hc dX6_emptyQueue_20 (by decide) ?_
      obtain ⟨g4, hw⟩ := hw
      refine V.icmp_eq hc (tgt := 51) dX6_emptyQueue_22 (by decide) g4 (by omega) (fun c5 => ?_) (fun c5 => ?_)
      · replace hw := hw.1 c5
        refine V.drop (lo' := [(16, o), (1, 0), (0, l2), (1, 0), (1, 0)]) ⟨Or.inr rfl, Or.inr rfl, Or.inr rfl, Or.inl rfl, Or.inl rfl, trivial⟩ ?_
        exact hK51 _ hw
      · replace hw := hw.2 c5
        refine V.aload_n (t := 6) hc dX6_emptyQueue_25 rfl rfl ?_
        refine V.gR hc gR_X6_46 (i' := o) rfl dX6_emptyQueue_26 ?_
        refine V.iload_n hc dX6_emptyQueue_29 rfl rfl ?_
        refine V.dup2 hc dX6_emptyQueue_30 (by simp) (by simp) ?_
        obtain ⟨g6, hw⟩ := hw
        refine V.ald hc ak_29 g6 dX6_emptyQueue_31 ?_
        refine V.iload_n hc dX6_emptyQueue_32 rfl rfl ?_
        refine V.isub hc dX6_emptyQueue_33 ?_
        obtain ⟨g8, hw⟩ := hw
        refine V.ast hc ak_29 g8 dX6_emptyQueue_34 (fun h7 e => ?_)
        replace hw := hw h7 e
        clear e
        refine V.aload_n (t := 6) hc dX6_emptyQueue_35 rfl rfl ?_
        refine V.gR hc gR_X6_68 (i' := 1) rfl dX6_emptyQueue_36 ?_
        refine V.gR hc gR_X6_137 (i' := 1) rfl dX6_emptyQueue_39 ?_
        refine V.iload_n hc dX6_emptyQueue_42 rfl rfl ?_
        obtain ⟨g9, hw⟩ := hw
        refine V.ald hc ak_37 g9 dX6_emptyQueue_43 ?_
        refine V.istore_n hc dX6_emptyQueue_44 rfl rfl (lo' := [(16, o), (1, 0), (0, l2), (0, h7 37 1 l3), (0, l4)]) rfl ?_
        refine V.iinc hc dX6_emptyQueue_45 rfl rfl (lo' := [(16, o), (1, 0), (0, l2), (0, h7 37 1 l3), (0, l4 + 1)]) rfl ?_
        refine V.goto hc (tgt := 12) dX6_emptyQueue_48 (by decide) ?_
        exact ih _ _ _ hw
theorem qX6_emptyQueue (G : GG) (l : Launch) (o : Int) (a1 : Int) (h : HP) (P : Int → HP → Prop) (hw : wX6_emptyQueue o a1 h P) : CnI l G yX6_emptyQueue cX6_emptyQueue 5 (some .int) 1 [(16, o), (0, a1)] h P := by
  refine CnI.of (lo := [(16, o), (0, a1), (1, 0), (1, 0), (1, 0)]) (by decide) rfl rfl rfl ?_
  intro p e s m args below meth c hc hr
  have hc : VC G p (rmD 1 0) s m args meth c RX6 cX6_emptyQueue 5 1 := hc
  refine V.aload_n (t := 6) hc dX6_emptyQueue_0 rfl rfl ?_
  refine V.gR hc gR_X6_46 (i' := o) rfl dX6_emptyQueue_1 ?_
  refine V.iload_n hc dX6_emptyQueue_4 rfl rfl ?_
  obtain ⟨g1, hw⟩ := hw
  refine V.ald hc ak_29 g1 dX6_emptyQueue_5 ?_
  refine V.istore_n hc dX6_emptyQueue_6 rfl rfl (lo' := [(16, o), (0, a1), (0, h 29 o a1), (1, 0), (1, 0)]) rfl ?_
  refine V.iload_n hc dX6_emptyQueue_7 rfl rfl ?_
  refine V.istore_n hc dX6_emptyQueue_8 rfl rfl (lo' := [(16, o), (0, a1), (0, h 29 o a1), (0, a1), (1, 0)]) rfl ?_
  refine V.iconst hc dX6_emptyQueue_9 ?_
  refine V.istore hc dX6_emptyQueue_10 rfl (lo' := [(16, o), (0, a1), (0, h 29 o a1), (0, a1), (0, 0)]) rfl ?_
  obtain ⟨f10, hw⟩ := hw
  refine V.drop (lo' := [(16, o), (1, 0), (0, h 29 o a1), (0, a1), (0, 0)]) ⟨Or.inr rfl, Or.inl rfl, Or.inr rfl, Or.inr rfl, Or.inr rfl, trivial⟩ ?_
  refine tX6_emptyQueue_12 hc hr ?_ f10 _ _ _ hw
  · intro h11 hw
    refine V.aload_n (t := 6) hc dX6_emptyQueue_51 rfl rfl ?_
    refine V.gR hc gR_X6_46 (i' := o) rfl dX6_emptyQueue_52 ?_
    refine V.bipush hc dX6_emptyQueue_55 (by decide) ?_
    refine V.dup2 hc dX6_emptyQueue_57 (by simp) (by simp) ?_
    refine V.ald hc ak_29 (by omega) dX6_emptyQueue_58 ?_
    refine V.iload_n hc dX6_emptyQueue_59 rfl rfl ?_
    refine V.isub hc dX6_emptyQueue_60 ?_
    refine V.ast hc ak_29 (by omega) dX6_emptyQueue_61 (fun h12 e => ?_)
    replace hw := hw h12 e
    clear e
    refine V.iload_n hc dX6_emptyQueue_62 rfl rfl ?_
    exact V.iret hc hr dX6_emptyQueue_63 hw
theorem qX0_happenTo (G : GG) (l : Launch) (o : Int) (a1 : Int) (a2 : Int) (h : HP) (P : HP → Prop) (hw : wX0_happenTo o a1 a2 h P) : CnV l G yX0_happenTo cX0_happenTo 4 4 [(10, o), (0, a1), (0, a2)] h P := by
  refine CnV.of (lo := [(10, o), (0, a1), (0, a2), (1, 0)]) (by decide) rfl rfl rfl ?_
  intro p e s m args below meth c hc hr
  have hc : VC G p (rmD 4 0) s m args meth c RX0 cX0_happenTo 4 4 := hc
  refine V.iload_n hc dX0_happenTo_0 rfl rfl ?_
  obtain ⟨g1, hw⟩ := hw
  refine V.if_ne hc (tgt := 36) dX0_happenTo_1 (by decide) g1 (fun c2 => ?_) (fun c2 => ?_)
  · replace hw := hw.1 c2
    refine V.iload_n hc dX0_happenTo_36 rfl rfl ?_
    refine V.iconst hc dX0_happenTo_37 ?_
    obtain ⟨g3, hw⟩ := hw
    refine V.icmp_ne hc (tgt := 65) dX0_happenTo_38 (by decide) g3 (by omega) (fun c4 => ?_) (fun c4 => ?_)
    · replace hw := hw.1 c4
      refine V.aload_n (t := 0) hc dX0_happenTo_65 rfl rfl ?_
      refine V.gR hc gR_X0_23 (i' := 12) rfl dX0_happenTo_66 ?_
      refine V.iload_n hc dX0_happenTo_69 rfl rfl ?_
      refine V.callVI hc (qX6_packets G l _ _ _ _ hw) mo_X6_packets ml_X0_94 (by rfl) rfl rfl (as := [(0, a1)]) rfl rfl rfl rfl rfl ⟨Nat.zero_le _, Nat.zero_le _⟩ dX0_happenTo_70 (fun x6 h5 hw => ?_)
      obtain ⟨g7, hw⟩ := hw
      refine V.if_le hc (tgt := 85) dX0_happenTo_73 (by decide) g7 (fun c8 => ?_) (fun c8 => ?_)
      · replace hw := hw.1 c8
        exact V.vret hc hr dX0_happenTo_85 hw
      · replace hw := hw.2 c8
        refine V.aload_n (t := 0) hc dX0_happenTo_76 rfl rfl ?_
        refine V.gR hc gR_X0_23 (i' := 12) rfl dX0_happenTo_77 ?_
        refine V.iload_n hc dX0_happenTo_80 rfl rfl ?_
        refine V.callVI hc (qX6_emptyQueue G l _ _ _ _ hw) mo_X6_emptyQueue ml_X0_97 (by rfl) rfl rfl (as := [(0, a1)]) rfl rfl rfl rfl rfl ⟨Nat.zero_le _, Nat.zero_le _⟩ dX0_happenTo_81 (fun x10 h9 hw => ?_)
        refine V.pop hc dX0_happenTo_84 (by show (0 : Nat) ≠ 2; omega) ?_
        exact V.vret hc hr dX0_happenTo_85 hw
    · replace hw := hw.2 c4
      refine V.aload_n (t := 0) hc dX0_happenTo_41 rfl rfl ?_
      refine V.bipush hc dX0_happenTo_42 (by decide) ?_
      refine V.callVI hc (qX0_draw G l _ _ _ _ hw) mo_X0_draw ml_X0_56 (by rfl) rfl rfl (as := [(0, 100)]) rfl rfl rfl rfl rfl ⟨Nat.zero_le _, Nat.zero_le _⟩ dX0_happenTo_44 (fun x12 h11 hw => ?_)
      refine V.iconst hc dX0_happenTo_47 ?_
      refine V.iadd hc dX0_happenTo_48 ?_
      refine V.istore_n hc dX0_happenTo_49 rfl rfl (lo' := [(10, o), (0, a1), (0, a2), (0, x12 + 1)]) rfl ?_
      refine V.aload_n (t := 0) hc dX0_happenTo_50 rfl rfl ?_
      refine V.gR hc gR_X0_23 (i' := 12) rfl dX0_happenTo_51 ?_
      refine V.iload_n hc dX0_happenTo_54 rfl rfl ?_
      refine V.iconst hc dX0_happenTo_55 ?_
      refine V.iload_n hc dX0_happenTo_56 rfl rfl ?_
      refine V.iconst hc dX0_happenTo_57 ?_
      refine V.iload_n hc dX0_happenTo_58 rfl rfl ?_
      refine V.callVV hc (qX6_changeCurve G l _ _ _ _ _ _ _ _ hw) mo_X6_changeCurve ml_X0_90 (by rfl) rfl rfl (as := [(0, a1), (0, 1), (0, x12 + 1), (0, 0), (0, x12 + 1)]) rfl rfl rfl rfl rfl ⟨Nat.zero_le _, Nat.zero_le _⟩ dX0_happenTo_59 (fun h13 hw => ?_)
      refine V.goto hc (tgt := 85) dX0_happenTo_62 (by decide) ?_
      exact V.vret hc hr dX0_happenTo_85 hw
  · replace hw := hw.2 c2
    refine V.aload_n (t := 0) hc dX0_happenTo_4 rfl rfl ?_
    refine V.bipush hc dX0_happenTo_5 (by decide) ?_
    refine V.callVI hc (qX0_draw G l _ _ _ _ hw) mo_X0_draw ml_X0_56 (by rfl) rfl rfl (as := [(0, 64)]) rfl rfl rfl rfl rfl ⟨Nat.zero_le _, Nat.zero_le _⟩ dX0_happenTo_7 (fun x15 h14 hw => ?_)
    refine V.iconst hc dX0_happenTo_10 ?_
    refine V.iadd hc dX0_happenTo_11 ?_
    refine V.istore_n hc dX0_happenTo_12 rfl rfl (lo' := [(10, o), (0, a1), (0, a2), (0, x15 + 1)]) rfl ?_
    refine V.aload_n (t := 0) hc dX0_happenTo_13 rfl rfl ?_
    refine V.gR hc gR_X0_15 (i' := 1) rfl dX0_happenTo_14 ?_
    refine V.iload_n hc dX0_happenTo_17 rfl rfl ?_
    refine V.callVI hc (qX8_isLeaf G l _ _ _ _ hw) mo_X8_isLeaf ml_X0_83 (by rfl) rfl rfl (as := [(0, a1)]) rfl rfl rfl rfl rfl ⟨Nat.zero_le _, Nat.zero_le _⟩ dX0_happenTo_18 (fun x17 h16 hw => ?_)
    obtain ⟨g18, hw⟩ := hw
    refine V.if_eq hc (tgt := 33) dX0_happenTo_21 (by decide) g18 (fun c19 => ?_) (fun c19 => ?_)
    · replace hw := hw.1 c19
      refine V.goto hc (tgt := 85) dX0_happenTo_33 (by decide) ?_
      exact V.vret hc hr dX0_happenTo_85 hw
    · replace hw := hw.2 c19
      refine V.aload_n (t := 0) hc dX0_happenTo_24 rfl rfl ?_
      refine V.gR hc gR_X0_23 (i' := 12) rfl dX0_happenTo_25 ?_
      refine V.iload_n hc dX0_happenTo_28 rfl rfl ?_
      refine V.iload_n hc dX0_happenTo_29 rfl rfl ?_
      refine V.callVV hc (qX6_accept G l _ _ _ _ _ hw) mo_X6_accept ml_X0_87 (by rfl) rfl rfl (as := [(0, a1), (0, x15 + 1)]) rfl rfl rfl rfl rfl ⟨Nat.zero_le _, Nat.zero_le _⟩ dX0_happenTo_30 (fun h20 hw => ?_)
      refine V.goto hc (tgt := 85) dX0_happenTo_33 (by decide) ?_
      exact V.vret hc hr dX0_happenTo_85 hw
theorem qX6_toggleFlow (G : GG) (l : Launch) (o : Int) (a1 : Int) (h : HP) (P : HP → Prop) (hw : wX6_toggleFlow o a1 h P) : CnV l G yX6_toggleFlow cX6_toggleFlow 2 1 [(16, o), (0, a1)] h P := by
  refine CnV.of (lo := [(16, o), (0, a1)]) (by decide) rfl rfl rfl ?_
  intro p e s m args below meth c hc hr
  have hc : VC G p (rmD 1 0) s m args meth c RX6 cX6_toggleFlow 2 1 := hc
  refine V.aload_n (t := 6) hc dX6_toggleFlow_0 rfl rfl ?_
  refine V.dup hc dX6_toggleFlow_1 (by simp) ?_
  refine V.gI hc gI_X6_27 rfl dX6_toggleFlow_2 ?_
  refine V.iconst hc dX6_toggleFlow_5 ?_
  refine V.iload_n hc dX6_toggleFlow_6 rfl rfl ?_
  refine V.ishl hc dX6_toggleFlow_7 ?_
  refine V.ixor hc dX6_toggleFlow_8 ?_
  refine V.pI hc pI_X6_27 rfl dX6_toggleFlow_9 (fun h1 e => ?_)
  replace hw := hw h1 e
  clear e
  exact V.vret hc hr dX6_toggleFlow_12 hw
theorem tX0_happen_31 {G : GG} {p : Program} {l : Launch} {e : Jvm.Env} {s : State} {m : MethodId} {args : Array Value} {below : List Frame} {meth : Method} {c : Code} {P : HP → Prop} (hc : VC G p (rmD 5 0) s m args meth c RX0 cX0_happen 2 5) (hr : meth.sig.returnType = none) {o : Int} {a1 : Int} {h : HP} (hw : wX0_happen_31 o a1 P h) : V G p l e (rmD 5 0) s m args below meth c (MQ below (QV G P) args s 0 0 (va_Aof G)) 2 31 [(10, o), (0, a1)] [] h 0 := by
  refine V.iload_n hc dX0_happen_31 rfl rfl ?_
  refine V.iconst hc dX0_happen_32 ?_
  obtain ⟨g3, hw⟩ := hw
  refine V.icmp_ne hc (tgt := 64) dX0_happen_33 (by decide) g3 (by omega) (fun c4 => ?_) (fun c4 => ?_)
  · replace hw := hw.1 c4
    exact V.vret hc hr dX0_happen_64 hw
  · replace hw := hw.2 c4
    refine V.aload_n (t := 0) hc dX0_happen_36 rfl rfl ?_
    refine V.gR hc gR_X0_15 (i' := 1) rfl dX0_happen_37 ?_
    refine V.gI hc gI_X0_77 rfl dX0_happen_40 ?_
    obtain ⟨g5, hw⟩ := hw
    refine V.if_le hc (tgt := 64) dX0_happen_43 (by decide) g5 (fun c6 => ?_) (fun c6 => ?_)
    · replace hw := hw.1 c6
      exact V.vret hc hr dX0_happen_64 hw
    · replace hw := hw.2 c6
      refine V.aload_n (t := 0) hc dX0_happen_46 rfl rfl ?_
      refine V.gR hc gR_X0_23 (i' := 12) rfl dX0_happen_47 ?_
      refine V.aload_n (t := 0) hc dX0_happen_50 rfl rfl ?_
      refine V.aload_n (t := 0) hc dX0_happen_51 rfl rfl ?_
      refine V.gR hc gR_X0_15 (i' := 1) rfl dX0_happen_52 ?_
      refine V.gI hc gI_X0_77 rfl dX0_happen_55 ?_
      refine V.callVI hc (qX0_draw G l _ _ _ _ hw) mo_X0_draw ml_X0_56 (by rfl) rfl rfl (as := [(0, h 8 1 1)]) rfl rfl rfl rfl rfl ⟨Nat.zero_le _, Nat.zero_le _⟩ dX0_happen_58 (fun x8 h7 hw => ?_)
      refine V.callVV hc (qX6_toggleFlow G l _ _ _ _ hw) mo_X6_toggleFlow ml_X0_80 (by rfl) rfl rfl (as := [(0, x8)]) rfl rfl rfl rfl rfl ⟨Nat.zero_le _, Nat.zero_le _⟩ dX0_happen_61 (fun h9 hw => ?_)
      exact V.vret hc hr dX0_happen_64 hw
theorem qX0_happen (G : GG) (l : Launch) (o : Int) (a1 : Int) (h : HP) (P : HP → Prop) (hw : wX0_happen o a1 h P) : CnV l G yX0_happen cX0_happen 2 5 [(10, o), (0, a1)] h P := by
  refine CnV.of (lo := [(10, o), (0, a1)]) (by decide) rfl rfl rfl ?_
  intro p e s m args below meth c hc hr
  have hc : VC G p (rmD 5 0) s m args meth c RX0 cX0_happen 2 5 := hc
  refine V.iload_n hc dX0_happen_0 rfl rfl ?_
  refine V.iconst hc dX0_happen_1 ?_
  obtain ⟨g1, hw⟩ := hw
  refine V.icmp_gt hc (tgt := 31) dX0_happen_2 (by decide) g1 (by omega) (fun c2 => ?_) (fun c2 => ?_)
  · replace hw := hw.1 c2
    exact tX0_happen_31 hc hr  hw
  · replace hw := hw.2 c2
    refine V.aload_n (t := 0) hc dX0_happen_5 rfl rfl ?_
    refine V.gR hc gR_X0_15 (i' := 1) rfl dX0_happen_6 ?_
    refine V.gI hc gI_X0_70 rfl dX0_happen_9 ?_
    obtain ⟨g10, hw⟩ := hw
    refine V.if_le hc (tgt := 31) dX0_happen_12 (by decide) g10 (fun c11 => ?_) (fun c11 => ?_)
    · replace hw := hw.1 c11
      exact tX0_happen_31 hc hr  hw
    · replace hw := hw.2 c11
      refine V.aload_n (t := 0) hc dX0_happen_15 rfl rfl ?_
      refine V.aload_n (t := 0) hc dX0_happen_16 rfl rfl ?_
      refine V.aload_n (t := 0) hc dX0_happen_17 rfl rfl ?_
      refine V.gR hc gR_X0_15 (i' := 1) rfl dX0_happen_18 ?_
      refine V.gI hc gI_X0_70 rfl dX0_happen_21 ?_
      refine V.callVI hc (qX0_draw G l _ _ _ _ hw) mo_X0_draw ml_X0_56 (by rfl) rfl rfl (as := [(0, h 8 1 0)]) rfl rfl rfl rfl rfl ⟨Nat.zero_le _, Nat.zero_le _⟩ dX0_happen_24 (fun x13 h12 hw => ?_)
      refine V.iload_n hc dX0_happen_27 rfl rfl ?_
      refine V.callVV hc (qX0_happenTo G l _ _ _ _ _ hw) mo_X0_happenTo ml_X0_73 (by rfl) rfl rfl (as := [(0, x13), (0, a1)]) rfl rfl rfl rfl rfl ⟨Nat.zero_le _, Nat.zero_le _⟩ dX0_happen_28 (fun h14 hw => ?_)
      exact tX0_happen_31 hc hr  hw
