theorem tX12_isNewLeaf_2 {G : GG} {p : Program} {l : Launch} {e : Jvm.Env} {s : State} {m : MethodId} {args : Array Value} {below : List Frame} {meth : Method} {c : Code} {P : Int → HP → Prop} (hc : VC G p (rmD 9 0) s m args meth c RX12 cX12_isNewLeaf 3 9) (hr : meth.sig.returnType = some .boolean) {o : Int} {a1 : Int} {K31 : HP → Prop} {K23 : HP → Prop} (hK31 : ∀  (h : HP), K31  h → V G p l e (rmD 9 0) s m args below meth c (MQ below (QI G P) args s 0 0 (va_Aof G)) 3 31 [(1, 0), (1, 0), (1, 0)] [] h 0) (hK23 : ∀  (h : HP), K23  h → V G p l e (rmD 9 0) s m args below meth c (MQ below (QI G P) args s 0 0 (va_Aof G)) 3 23 [(1, 0), (1, 0), (1, 0)] [] h 0) : ∀ (f : Nat) (l2 : Int) (h : HP), wX12_isNewLeaf_2 o a1 K31 K23 f l2 h → V G p l e (rmD 9 0) s m args below meth c (MQ below (QI G P) args s 0 0 (va_Aof G)) 3 2 [(22, o), (0, a1), (0, l2)] [] h 0 := by
  intro f
  induction f with
  | zero =>
    intro l2 h hw
    exact hw.elim
  | succ f ih =>
    intro l2 h hw
    refine V.iload_n hc dX12_isNewLeaf_2 rfl rfl ?_
    refine V.aload_n (t := 12) hc dX12_isNewLeaf_3 rfl rfl ?_
    refine V.callVI hc (qX12_newClasses G l _ _ _ hw) mo_X12_newClasses ml_X12_188 (by rfl) rfl rfl (as := []) rfl rfl rfl rfl rfl ⟨Nat.zero_le _, Nat.zero_le _⟩ dX12_isNewLeaf_4 (fun x2 h1 hw => ?_)
    obtain ⟨g3, hw⟩ := hw
    obtain ⟨g4, hw⟩ := hw
    refine V.icmp_ge hc (tgt := 31) dX12_isNewLeaf_7 (by decide) g3 g4 (fun c5 => ?_) (fun c5 => ?_)
    · replace hw := hw.1 c5
      refine V.drop (lo' := [(1, 0), (1, 0), (1, 0)]) ⟨Or.inl rfl, Or.inl rfl, Or.inl rfl, trivial⟩ ?_
      exact hK31 _ hw
    · replace hw := hw.2 c5
      refine V.aload_n (t := 12) hc dX12_isNewLeaf_10 rfl rfl ?_
      refine V.gR hc gR_X12_25 (i' := o) rfl dX12_isNewLeaf_11 ?_
      refine V.bipush hc dX12_isNewLeaf_14 (by decide) ?_
      refine V.iload_n hc dX12_isNewLeaf_16 rfl rfl ?_
      refine V.iadd hc dX12_isNewLeaf_17 ?_
      obtain ⟨g6, hw⟩ := hw
      refine V.ald hc ak_50 g6 dX12_isNewLeaf_18 ?_
      refine V.iload_n hc dX12_isNewLeaf_19 rfl rfl ?_
      obtain ⟨g7, hw⟩ := hw
      obtain ⟨g8, hw⟩ := hw
      refine V.icmp_ne hc (tgt := 25) dX12_isNewLeaf_20 (by decide) g7 g8 (fun c9 => ?_) (fun c9 => ?_)
      · replace hw := hw.1 c9
        refine V.iinc hc dX12_isNewLeaf_25 rfl rfl (lo' := [(22, o), (0, a1), (0, l2 + 1)]) rfl ?_
        refine V.goto hc (tgt := 2) dX12_isNewLeaf_28 (by decide) ?_
        exact ih _ _ hw
      · replace hw := hw.2 c9
        refine V.drop (lo' := [(1, 0), (1, 0), (1, 0)]) ⟨Or.inl rfl, Or.inl rfl, Or.inl rfl, trivial⟩ ?_
        exact hK23 _ hw
theorem qX12_isNewLeaf (G : GG) (l : Launch) (o : Int) (a1 : Int) (h : HP) (P : Int → HP → Prop) (hw : wX12_isNewLeaf o a1 h P) : CnI l G yX12_isNewLeaf cX12_isNewLeaf 3 (some .boolean) 9 [(22, o), (0, a1)] h P := by
  refine CnI.of (lo := [(22, o), (0, a1), (1, 0)]) (by decide) rfl rfl rfl ?_
  intro p e s m args below meth c hc hr
  have hc : VC G p (rmD 9 0) s m args meth c RX12 cX12_isNewLeaf 3 9 := hc
  refine V.iconst hc dX12_isNewLeaf_0 ?_
  refine V.istore_n hc dX12_isNewLeaf_1 rfl rfl (lo' := [(22, o), (0, a1), (0, 0)]) rfl ?_
  obtain ⟨f10, hw⟩ := hw
  refine tX12_isNewLeaf_2 hc hr ?_ ?_ f10 _ _ hw
  · intro h11 hw
    refine V.iconst hc dX12_isNewLeaf_31 ?_
    exact V.zret hc hr dX12_isNewLeaf_32 (by omega) hw
  · intro h12 hw
    refine V.iconst hc dX12_isNewLeaf_23 ?_
    exact V.zret hc hr dX12_isNewLeaf_24 (by omega) hw
theorem tX12_readCurves_59 {G : GG} {p : Program} {l : Launch} {e : Jvm.Env} {s : State} {m : MethodId} {args : Array Value} {below : List Frame} {meth : Method} {c : Code} {P : HP → Prop} (hc : VC G p (rmD 11 0) s m args meth c RX12 cX12_readCurves 5 11) (hr : meth.sig.returnType = none) {o : Int} {a1 : Int} {l2 : Int} {l3 : Int} {l4 : Int} {h : HP} {K20 : Int → Int → HP → Prop} (hK20 : ∀ (x3 : Int) (x4 : Int) (h : HP), K20 x3 x4 h → V G p l e (rmD 11 0) s m args below meth c (MQ below (QV G P) args s 0 0 (va_Aof G)) 5 20 [(22, o), (1, 0), (0, l2), (0, x3), (0, x4)] [] h 0) (hw : wX12_readCurves_59 o a1 l2 l3 l4 K20 h) : V G p l e (rmD 11 0) s m args below meth c (MQ below (QV G P) args s 0 0 (va_Aof G)) 5 59 [(22, o), (1, 0), (0, l2), (0, l3), (0, l4)] [] h 0 := by
  refine V.aload_n (t := 12) hc dX12_readCurves_59 rfl rfl ?_
  refine V.gR hc gR_X12_40 (i' := o) rfl dX12_readCurves_60 ?_
  refine V.iload_n hc dX12_readCurves_63 rfl rfl ?_
  refine V.iconst hc dX12_readCurves_64 ?_
  refine V.iload hc dX12_readCurves_65 rfl ?_
  refine V.imul hc dX12_readCurves_67 ?_
  refine V.iadd hc dX12_readCurves_68 ?_
  refine V.iconst hc dX12_readCurves_69 ?_
  obtain ⟨g10, hw⟩ := hw
  refine V.ast hc ak_55 g10 dX12_readCurves_70 (fun h9 e => ?_)
  replace hw := hw h9 e
  clear e
  refine V.aload_n (t := 12) hc dX12_readCurves_71 rfl rfl ?_
  refine V.gR hc gR_X12_40 (i' := o) rfl dX12_readCurves_72 ?_
  refine V.iload_n hc dX12_readCurves_75 rfl rfl ?_
  refine V.iconst hc dX12_readCurves_76 ?_
  refine V.iload hc dX12_readCurves_77 rfl ?_
  refine V.imul hc dX12_readCurves_79 ?_
  refine V.iadd hc dX12_readCurves_80 ?_
  refine V.iconst hc dX12_readCurves_81 ?_
  refine V.iadd hc dX12_readCurves_82 ?_
  refine V.aload_n (t := 12) hc dX12_readCurves_83 rfl rfl ?_
  refine V.iconst hc dX12_readCurves_84 ?_
  refine V.bipush hc dX12_readCurves_85 (by decide) ?_
  refine V.callVI hc (qX12_readNumber G l _ _ _ _ _ hw) mo_X12_readNumber ml_X12_195 (by rfl) rfl rfl (as := [(0, 0), (0, 100)]) rfl rfl rfl rfl rfl ⟨Nat.zero_le _, Nat.zero_le _⟩ dX12_readCurves_87 (fun x12 h11 hw => ?_)
  obtain ⟨g14, hw⟩ := hw
  refine V.ast hc ak_55 g14 dX12_readCurves_90 (fun h13 e => ?_)
  replace hw := hw h13 e
  clear e
  refine V.aload_n (t := 12) hc dX12_readCurves_91 rfl rfl ?_
  refine V.gR hc gR_X12_40 (i' := o) rfl dX12_readCurves_92 ?_
  refine V.iload_n hc dX12_readCurves_95 rfl rfl ?_
  refine V.iconst hc dX12_readCurves_96 ?_
  refine V.iload hc dX12_readCurves_97 rfl ?_
  refine V.imul hc dX12_readCurves_99 ?_
  refine V.iadd hc dX12_readCurves_100 ?_
  refine V.iconst hc dX12_readCurves_101 ?_
  refine V.iadd hc dX12_readCurves_102 ?_
  refine V.aload_n (t := 12) hc dX12_readCurves_103 rfl rfl ?_
  refine V.iconst hc dX12_readCurves_104 ?_
  refine V.bipush hc dX12_readCurves_105 (by decide) ?_
  refine V.callVI hc (qX12_readNumber G l _ _ _ _ _ hw) mo_X12_readNumber ml_X12_195 (by rfl) rfl rfl (as := [(0, 0), (0, 30)]) rfl rfl rfl rfl rfl ⟨Nat.zero_le _, Nat.zero_le _⟩ dX12_readCurves_107 (fun x16 h15 hw => ?_)
  obtain ⟨g18, hw⟩ := hw
  refine V.ast hc ak_55 g18 dX12_readCurves_110 (fun h17 e => ?_)
  replace hw := hw h17 e
  clear e
  refine V.aload_n (t := 12) hc dX12_readCurves_111 rfl rfl ?_
  refine V.gR hc gR_X12_40 (i' := o) rfl dX12_readCurves_112 ?_
  refine V.iload_n hc dX12_readCurves_115 rfl rfl ?_
  refine V.iconst hc dX12_readCurves_116 ?_
  refine V.iload hc dX12_readCurves_117 rfl ?_
  refine V.imul hc dX12_readCurves_119 ?_
  refine V.iadd hc dX12_readCurves_120 ?_
  refine V.iconst hc dX12_readCurves_121 ?_
  refine V.iadd hc dX12_readCurves_122 ?_
  refine V.aload_n (t := 12) hc dX12_readCurves_123 rfl rfl ?_
  refine V.iconst hc dX12_readCurves_124 ?_
  refine V.bipush hc dX12_readCurves_125 (by decide) ?_
  refine V.callVI hc (qX12_readNumber G l _ _ _ _ _ hw) mo_X12_readNumber ml_X12_195 (by rfl) rfl rfl (as := [(0, 1), (0, 100)]) rfl rfl rfl rfl rfl ⟨Nat.zero_le _, Nat.zero_le _⟩ dX12_readCurves_127 (fun x20 h19 hw => ?_)
  obtain ⟨g22, hw⟩ := hw
  refine V.ast hc ak_55 g22 dX12_readCurves_130 (fun h21 e => ?_)
  replace hw := hw h21 e
  clear e
  refine V.aload_n (t := 12) hc dX12_readCurves_131 rfl rfl ?_
  refine V.aload_n (t := 12) hc dX12_readCurves_132 rfl rfl ?_
  refine V.gR hc gR_X12_15 (i' := o) rfl dX12_readCurves_133 ?_
  refine V.callVI hc (qX12_which G l _ _ _ _ hw) mo_X12_which ml_X12_191 (by rfl) rfl rfl (as := [(58, o)]) rfl rfl rfl rfl rfl ⟨Nat.zero_le _, Nat.zero_le _⟩ dX12_readCurves_136 (fun x24 h23 hw => ?_)
  refine V.istore hc dX12_readCurves_139 rfl (lo' := [(22, o), (1, 0), (0, l2), (0, l3), (0, x24)]) rfl ?_
  refine V.goto hc (tgt := 20) dX12_readCurves_141 (by decide) ?_
  exact hK20 _ _ _ hw
theorem tX12_readCurves_41 {G : GG} {p : Program} {l : Launch} {e : Jvm.Env} {s : State} {m : MethodId} {args : Array Value} {below : List Frame} {meth : Method} {c : Code} {P : HP → Prop} (hc : VC G p (rmD 11 0) s m args meth c RX12 cX12_readCurves 5 11) (hr : meth.sig.returnType = none) {o : Int} {a1 : Int} {l2 : Int} {l3 : Int} {l4 : Int} {h : HP} {K20 : Int → Int → HP → Prop} (hK20 : ∀ (x3 : Int) (x4 : Int) (h : HP), K20 x3 x4 h → V G p l e (rmD 11 0) s m args below meth c (MQ below (QV G P) args s 0 0 (va_Aof G)) 5 20 [(22, o), (1, 0), (0, l2), (0, x3), (0, x4)] [] h 0) (hw : wX12_readCurves_41 o a1 l2 l3 l4 K20 h) : V G p l e (rmD 11 0) s m args below meth c (MQ below (QV G P) args s 0 0 (va_Aof G)) 5 41 [(22, o), (1, 0), (0, l2), (0, l3), (0, l4)] [] h 0 := by
  refine V.iload_n hc dX12_readCurves_41 rfl rfl ?_
  refine V.iconst hc dX12_readCurves_42 ?_
  refine V.iload hc dX12_readCurves_43 rfl ?_
  refine V.ishl hc dX12_readCurves_45 ?_
  refine V.ior hc dX12_readCurves_46 ?_
  refine V.istore_n hc dX12_readCurves_47 rfl rfl (lo' := [(22, o), (1, 0), (0, l2), (0, bOr l3 (bShl 1 l4)), (0, l4)]) rfl ?_
  refine V.aload_n (t := 12) hc dX12_readCurves_48 rfl rfl ?_
  refine V.gI hc gI_X12_160 rfl dX12_readCurves_49 ?_
  obtain ⟨g7, hw⟩ := hw
  refine V.if_ne hc (tgt := 59) dX12_readCurves_52 (by decide) g7 (fun c8 => ?_) (fun c8 => ?_)
  · replace hw := hw.1 c8
    exact tX12_readCurves_59 hc hr (fun y3 y4 hy hw => by exact hK20 _ _ _ hw) hw
  · replace hw := hw.2 c8
    refine V.aload_n (t := 12) hc dX12_readCurves_55 rfl rfl ?_
    refine V.callVV hc (qX12_stepOn G l _ _ _ hw) mo_X12_stepOn ml_X12_185 (by rfl) rfl rfl (as := []) rfl rfl rfl rfl rfl ⟨Nat.zero_le _, Nat.zero_le _⟩ dX12_readCurves_56 (fun h25 hw => ?_)
    exact tX12_readCurves_59 hc hr (fun y3 y4 hy hw => by exact hK20 _ _ _ hw) hw
theorem tX12_readCurves_20 {G : GG} {p : Program} {l : Launch} {e : Jvm.Env} {s : State} {m : MethodId} {args : Array Value} {below : List Frame} {meth : Method} {c : Code} {P : HP → Prop} (hc : VC G p (rmD 11 0) s m args meth c RX12 cX12_readCurves 5 11) (hr : meth.sig.returnType = none) {o : Int} {a1 : Int} {l2 : Int} {K144 : HP → Prop} (hK144 : ∀  (h : HP), K144  h → V G p l e (rmD 11 0) s m args below meth c (MQ below (QV G P) args s 0 0 (va_Aof G)) 5 144 [(1, 0), (1, 0), (1, 0), (1, 0), (1, 0)] [] h 0) : ∀ (f : Nat) (l3 : Int) (l4 : Int) (h : HP), wX12_readCurves_20 o a1 l2 K144 f l3 l4 h → V G p l e (rmD 11 0) s m args below meth c (MQ below (QV G P) args s 0 0 (va_Aof G)) 5 20 [(22, o), (1, 0), (0, l2), (0, l3), (0, l4)] [] h 0 := by
  intro f
  induction f with
  | zero =>
    intro l3 l4 h hw
    exact hw.elim
  | succ f ih =>
    intro l3 l4 h hw
    refine V.iload hc dX12_readCurves_20 rfl ?_
    refine V.iconst hc dX12_readCurves_22 ?_
    obtain ⟨g3, hw⟩ := hw
    refine V.icmp_eq hc (tgt := 144) dX12_readCurves_23 (by decide) g3 (by omega) (fun c4 => ?_) (fun c4 => ?_)
    · replace hw := hw.1 c4
      refine V.drop (lo' := [(1, 0), (1, 0), (1, 0), (1, 0), (1, 0)]) ⟨Or.inl rfl, Or.inr rfl, Or.inl rfl, Or.inl rfl, Or.inl rfl, trivial⟩ ?_
      exact hK144 _ hw
    · replace hw := hw.2 c4
      refine V.iload_n hc dX12_readCurves_26 rfl rfl ?_
      refine V.iload hc dX12_readCurves_27 rfl ?_
      refine V.ishr hc dX12_readCurves_29 ?_
      refine V.iconst hc dX12_readCurves_30 ?_
      refine V.iand hc dX12_readCurves_31 ?_
      refine V.iconst hc dX12_readCurves_32 ?_
      obtain ⟨g5, hw⟩ := hw
      refine V.icmp_ne hc (tgt := 41) dX12_readCurves_33 (by decide) g5 (by omega) (fun c6 => ?_) (fun c6 => ?_)
      · replace hw := hw.1 c6
        exact tX12_readCurves_41 hc hr (fun y3 y4 hy hw => by exact ih _ _ _ hw) hw
      · replace hw := hw.2 c6
        refine V.aload_n (t := 12) hc dX12_readCurves_36 rfl rfl ?_
        refine V.iconst hc dX12_readCurves_37 ?_
        refine V.callVV hc (qX12_wrong G l _ _ _ _ hw) mo_X12_wrong ml_X12_178 (by rfl) rfl rfl (as := [(0, 5)]) rfl rfl rfl rfl rfl ⟨Nat.zero_le _, Nat.zero_le _⟩ dX12_readCurves_38 (fun h26 hw => ?_)
        exact tX12_readCurves_41 hc hr (fun y3 y4 hy hw => by exact ih _ _ _ hw) hw
theorem qX12_readCurves (G : GG) (l : Launch) (o : Int) (a1 : Int) (h : HP) (P : HP → Prop) (hw : wX12_readCurves o a1 h P) : CnV l G yX12_readCurves cX12_readCurves 5 11 [(22, o), (0, a1)] h P := by
  refine CnV.of (lo := [(22, o), (0, a1), (1, 0), (1, 0), (1, 0)]) (by decide) rfl rfl rfl ?_
  intro p e s m args below meth c hc hr
  have hc : VC G p (rmD 11 0) s m args meth c RX12 cX12_readCurves 5 11 := hc
  refine V.bipush hc dX12_readCurves_0 (by decide) ?_
  refine V.bipush hc dX12_readCurves_2 (by decide) ?_
  refine V.iload_n hc dX12_readCurves_4 rfl rfl ?_
  refine V.iadd hc dX12_readCurves_5 ?_
  refine V.imul hc dX12_readCurves_6 ?_
  refine V.istore_n hc dX12_readCurves_7 rfl rfl (lo' := [(22, o), (0, a1), (0, 12 * (12 + a1)), (1, 0), (1, 0)]) rfl ?_
  refine V.iconst hc dX12_readCurves_8 ?_
  refine V.istore_n hc dX12_readCurves_9 rfl rfl (lo' := [(22, o), (0, a1), (0, 12 * (12 + a1)), (0, 0), (1, 0)]) rfl ?_
  refine V.aload_n (t := 12) hc dX12_readCurves_10 rfl rfl ?_
  refine V.aload_n (t := 12) hc dX12_readCurves_11 rfl rfl ?_
  refine V.gR hc gR_X12_15 (i' := o) rfl dX12_readCurves_12 ?_
  refine V.callVI hc (qX12_which G l _ _ _ _ hw) mo_X12_which ml_X12_191 (by rfl) rfl rfl (as := [(58, o)]) rfl rfl rfl rfl rfl ⟨Nat.zero_le _, Nat.zero_le _⟩ dX12_readCurves_15 (fun x2 h1 hw => ?_)
  refine V.istore hc dX12_readCurves_18 rfl (lo' := [(22, o), (0, a1), (0, 12 * (12 + a1)), (0, 0), (0, x2)]) rfl ?_
  obtain ⟨f27, hw⟩ := hw
  refine V.drop (lo' := [(22, o), (1, 0), (0, 12 * (12 + a1)), (0, 0), (0, x2)]) ⟨Or.inr rfl, Or.inl rfl, Or.inr rfl, Or.inr rfl, Or.inr rfl, trivial⟩ ?_
  refine tX12_readCurves_20 hc hr ?_ f27 _ _ _ hw
  · intro h28 hw
    exact V.vret hc hr dX12_readCurves_144 hw
theorem tX12_readClass_43 {G : GG} {p : Program} {l : Launch} {e : Jvm.Env} {s : State} {m : MethodId} {args : Array Value} {below : List Frame} {meth : Method} {c : Code} {P : HP → Prop} (hc : VC G p (rmD 12 0) s m args meth c RX12 cX12_readClass 4 12) (hr : meth.sig.returnType = none) {o : Int} {l1 : Int} {K70 : HP → Prop} (hK70 : ∀  (h : HP), K70  h → V G p l e (rmD 12 0) s m args below meth c (MQ below (QV G P) args s 0 0 (va_Aof G)) 4 70 [(22, o), (0, l1), (1, 0), (1, 0)] [] h 0) : ∀ (f : Nat) (l2 : Int) (h : HP), wX12_readClass_43 o l1 K70 f l2 h → V G p l e (rmD 12 0) s m args below meth c (MQ below (QV G P) args s 0 0 (va_Aof G)) 4 43 [(22, o), (0, l1), (0, l2), (1, 0)] [] h 0 := by
  intro f
  induction f with
  | zero =>
    intro l2 h hw
    exact hw.elim
  | succ f ih =>
    intro l2 h hw
    refine V.iload_n hc dX12_readClass_43 rfl rfl ?_
    refine V.bipush hc dX12_readClass_44 (by decide) ?_
    obtain ⟨g12, hw⟩ := hw
    refine V.icmp_ge hc (tgt := 70) dX12_readClass_46 (by decide) g12 (by omega) (fun c13 => ?_) (fun c13 => ?_)
    · replace hw := hw.1 c13
      refine V.drop (lo' := [(22, o), (0, l1), (1, 0), (1, 0)]) ⟨Or.inr rfl, Or.inr rfl, Or.inl rfl, Or.inr rfl, trivial⟩ ?_
      exact hK70 _ hw
    · replace hw := hw.2 c13
      refine V.aload_n (t := 12) hc dX12_readClass_49 rfl rfl ?_
      refine V.gR hc gR_X12_40 (i' := o) rfl dX12_readClass_50 ?_
      refine V.bipush hc dX12_readClass_53 (by decide) ?_
      refine V.bipush hc dX12_readClass_55 (by decide) ?_
      refine V.iload_n hc dX12_readClass_57 rfl rfl ?_
      refine V.iadd hc dX12_readClass_58 ?_
      refine V.imul hc dX12_readClass_59 ?_
      refine V.iload_n hc dX12_readClass_60 rfl rfl ?_
      refine V.iadd hc dX12_readClass_61 ?_
      refine V.iconst hc dX12_readClass_62 ?_
      obtain ⟨g15, hw⟩ := hw
      refine V.ast hc ak_55 g15 dX12_readClass_63 (fun h14 e => ?_)
      replace hw := hw h14 e
      clear e
      refine V.iinc hc dX12_readClass_64 rfl rfl (lo' := [(22, o), (0, l1), (0, l2 + 1), (1, 0)]) rfl ?_
      refine V.goto hc (tgt := 43) dX12_readClass_67 (by decide) ?_
      exact ih _ _ hw
theorem tX12_readClass_190 {G : GG} {p : Program} {l : Launch} {e : Jvm.Env} {s : State} {m : MethodId} {args : Array Value} {below : List Frame} {meth : Method} {c : Code} {P : HP → Prop} (hc : VC G p (rmD 12 0) s m args meth c RX12 cX12_readClass 4 12) (hr : meth.sig.returnType = none) {o : Int} {l1 : Int} {h : HP} (hw : wX12_readClass_190 o l1 P h) : V G p l e (rmD 12 0) s m args below meth c (MQ below (QV G P) args s 0 0 (va_Aof G)) 4 190 [(22, o), (0, l1), (1, 0), (1, 0)] [] h 0 := by
  refine V.aload_n (t := 12) hc dX12_readClass_190 rfl rfl ?_
  refine V.iload_n hc dX12_readClass_191 rfl rfl ?_
  refine V.callVV hc (qX12_readCurves G l _ _ _ _ hw) mo_X12_readCurves ml_X12_203 (by rfl) rfl rfl (as := [(0, l1)]) rfl rfl rfl rfl rfl ⟨Nat.zero_le _, Nat.zero_le _⟩ dX12_readClass_192 (fun h28 hw => ?_)
  refine V.aload_n (t := 12) hc dX12_readClass_195 rfl rfl ?_
  refine V.gR hc gR_X12_21 (i' := o) rfl dX12_readClass_196 ?_
  refine V.iconst hc dX12_readClass_199 ?_
  refine V.dup2 hc dX12_readClass_200 (by simp) (by simp) ?_
  refine V.ald hc ak_49 (by omega) dX12_readClass_201 ?_
  refine V.iconst hc dX12_readClass_202 ?_
  refine V.iadd hc dX12_readClass_203 ?_
  refine V.ast hc ak_49 (by omega) dX12_readClass_204 (fun h29 e => ?_)
  replace hw := hw h29 e
  clear e
  exact V.vret hc hr dX12_readClass_205 hw
theorem tX12_readClass_180 {G : GG} {p : Program} {l : Launch} {e : Jvm.Env} {s : State} {m : MethodId} {args : Array Value} {below : List Frame} {meth : Method} {c : Code} {P : HP → Prop} (hc : VC G p (rmD 12 0) s m args meth c RX12 cX12_readClass 4 12) (hr : meth.sig.returnType = none) {o : Int} {l1 : Int} {l3 : Int} {h : HP} (hw : wX12_readClass_180 o l1 l3 P h) : V G p l e (rmD 12 0) s m args below meth c (MQ below (QV G P) args s 0 0 (va_Aof G)) 4 180 [(22, o), (0, l1), (1, 0), (0, l3)] [] h 0 := by
  refine V.aload_n (t := 12) hc dX12_readClass_180 rfl rfl ?_
  refine V.gR hc gR_X12_25 (i' := o) rfl dX12_readClass_181 ?_
  refine V.bipush hc dX12_readClass_184 (by decide) ?_
  refine V.iload_n hc dX12_readClass_186 rfl rfl ?_
  refine V.iadd hc dX12_readClass_187 ?_
  refine V.iload_n hc dX12_readClass_188 rfl rfl ?_
  obtain ⟨g38, hw⟩ := hw
  refine V.ast hc ak_50 g38 dX12_readClass_189 (fun h37 e => ?_)
  replace hw := hw h37 e
  clear e
  refine V.drop (lo' := [(22, o), (0, l1), (1, 0), (1, 0)]) ⟨Or.inr rfl, Or.inr rfl, Or.inr rfl, Or.inl rfl, trivial⟩ ?_
  exact tX12_readClass_190 hc hr  hw
theorem tX12_readClass_169 {G : GG} {p : Program} {l : Launch} {e : Jvm.Env} {s : State} {m : MethodId} {args : Array Value} {below : List Frame} {meth : Method} {c : Code} {P : HP → Prop} (hc : VC G p (rmD 12 0) s m args meth c RX12 cX12_readClass 4 12) (hr : meth.sig.returnType = none) {o : Int} {l1 : Int} {l3 : Int} {h : HP} (hw : wX12_readClass_169 o l1 l3 P h) : V G p l e (rmD 12 0) s m args below meth c (MQ below (QV G P) args s 0 0 (va_Aof G)) 4 169 [(22, o), (0, l1), (1, 0), (0, l3)] [] h 0 := by
  refine V.aload_n (t := 12) hc dX12_readClass_169 rfl rfl ?_
  refine V.gI hc gI_X12_160 rfl dX12_readClass_170 ?_
  obtain ⟨g35, hw⟩ := hw
  refine V.if_ne hc (tgt := 180) dX12_readClass_173 (by decide) g35 (fun c36 => ?_) (fun c36 => ?_)
  · replace hw := hw.1 c36
    exact tX12_readClass_180 hc hr  hw
  · replace hw := hw.2 c36
    refine V.aload_n (t := 12) hc dX12_readClass_176 rfl rfl ?_
    refine V.callVV hc (qX12_stepOn G l _ _ _ hw) mo_X12_stepOn ml_X12_185 (by rfl) rfl rfl (as := []) rfl rfl rfl rfl rfl ⟨Nat.zero_le _, Nat.zero_le _⟩ dX12_readClass_177 (fun h39 hw => ?_)
    exact tX12_readClass_180 hc hr  hw
theorem tX12_readClass_164 {G : GG} {p : Program} {l : Launch} {e : Jvm.Env} {s : State} {m : MethodId} {args : Array Value} {below : List Frame} {meth : Method} {c : Code} {P : HP → Prop} (hc : VC G p (rmD 12 0) s m args meth c RX12 cX12_readClass 4 12) (hr : meth.sig.returnType = none) {o : Int} {l1 : Int} {l3 : Int} {h : HP} (hw : wX12_readClass_164 o l1 l3 P h) : V G p l e (rmD 12 0) s m args below meth c (MQ below (QV G P) args s 0 0 (va_Aof G)) 4 164 [(22, o), (0, l1), (1, 0), (0, l3)] [] h 0 := by
  refine V.aload_n (t := 12) hc dX12_readClass_164 rfl rfl ?_
  refine V.iconst hc dX12_readClass_165 ?_
  refine V.callVV hc (qX12_wrong G l _ _ _ _ hw) mo_X12_wrong ml_X12_178 (by rfl) rfl rfl (as := [(0, 3)]) rfl rfl rfl rfl rfl ⟨Nat.zero_le _, Nat.zero_le _⟩ dX12_readClass_166 (fun h43 hw => ?_)
  exact tX12_readClass_169 hc hr  hw
theorem tX12_readClass_14 {G : GG} {p : Program} {l : Launch} {e : Jvm.Env} {s : State} {m : MethodId} {args : Array Value} {below : List Frame} {meth : Method} {c : Code} {P : HP → Prop} (hc : VC G p (rmD 12 0) s m args meth c RX12 cX12_readClass 4 12) (hr : meth.sig.returnType = none) {o : Int} {h : HP} (hw : wX12_readClass_14 o P h) : V G p l e (rmD 12 0) s m args below meth c (MQ below (QV G P) args s 0 0 (va_Aof G)) 4 14 [(22, o), (1, 0), (1, 0), (1, 0)] [] h 0 := by
  refine V.aload_n (t := 12) hc dX12_readClass_14 rfl rfl ?_
  refine V.gI hc gI_X12_160 rfl dX12_readClass_15 ?_
  obtain ⟨g5, hw⟩ := hw
  refine V.if_eq hc (tgt := 22) dX12_readClass_18 (by decide) g5 (fun c6 => ?_) (fun c6 => ?_)
  · replace hw := hw.1 c6
    refine V.aload_n (t := 12) hc dX12_readClass_22 rfl rfl ?_
    refine V.callVV hc (qX12_stepOn G l _ _ _ hw) mo_X12_stepOn ml_X12_185 (by rfl) rfl rfl (as := []) rfl rfl rfl rfl rfl ⟨Nat.zero_le _, Nat.zero_le _⟩ dX12_readClass_23 (fun h7 hw => ?_)
    refine V.aload_n (t := 12) hc dX12_readClass_26 rfl rfl ?_
    refine V.callVI hc (qX12_newClasses G l _ _ _ hw) mo_X12_newClasses ml_X12_188 (by rfl) rfl rfl (as := []) rfl rfl rfl rfl rfl ⟨Nat.zero_le _, Nat.zero_le _⟩ dX12_readClass_27 (fun x9 h8 hw => ?_)
    refine V.istore_n hc dX12_readClass_30 rfl rfl (lo' := [(22, o), (0, x9), (1, 0), (1, 0)]) rfl ?_
    refine V.aload_n (t := 12) hc dX12_readClass_31 rfl rfl ?_
    refine V.gR hc gR_X12_25 (i' := o) rfl dX12_readClass_32 ?_
    refine V.bipush hc dX12_readClass_35 (by decide) ?_
    refine V.iload_n hc dX12_readClass_37 rfl rfl ?_
    refine V.iadd hc dX12_readClass_38 ?_
    refine V.iconst hc dX12_readClass_39 ?_
    obtain ⟨g11, hw⟩ := hw
    refine V.ast hc ak_50 g11 dX12_readClass_40 (fun h10 e => ?_)
    replace hw := hw h10 e
    clear e
    refine V.iconst hc dX12_readClass_41 ?_
    refine V.istore_n hc dX12_readClass_42 rfl rfl (lo' := [(22, o), (0, x9), (0, 0), (1, 0)]) rfl ?_
    obtain ⟨f16, hw⟩ := hw
    refine tX12_readClass_43 hc hr ?_ f16 _ _ hw
    · intro h17 hw
      refine V.bipush hc dX12_readClass_70 (by decide) ?_
      refine V.bipush hc dX12_readClass_72 (by decide) ?_
      refine V.iload_n hc dX12_readClass_74 rfl rfl ?_
      refine V.iadd hc dX12_readClass_75 ?_
      refine V.imul hc dX12_readClass_76 ?_
      refine V.iconst hc dX12_readClass_77 ?_
      refine V.iadd hc dX12_readClass_78 ?_
      refine V.istore_n hc dX12_readClass_79 rfl rfl (lo' := [(22, o), (0, x9), (0, (12 * (12 + x9)) + 4), (1, 0)]) rfl ?_
      refine V.aload_n (t := 12) hc dX12_readClass_80 rfl rfl ?_
      refine V.gR hc gR_X12_40 (i' := o) rfl dX12_readClass_81 ?_
      refine V.iload_n hc dX12_readClass_84 rfl rfl ?_
      refine V.iconst hc dX12_readClass_85 ?_
      obtain ⟨g19, hw⟩ := hw
      refine V.ast hc ak_55 g19 dX12_readClass_86 (fun h18 e => ?_)
      replace hw := hw h18 e
      clear e
      refine V.aload_n (t := 12) hc dX12_readClass_87 rfl rfl ?_
      refine V.gR hc gR_X12_40 (i' := o) rfl dX12_readClass_88 ?_
      refine V.iload_n hc dX12_readClass_91 rfl rfl ?_
      refine V.iconst hc dX12_readClass_92 ?_
      refine V.iadd hc dX12_readClass_93 ?_
      refine V.bipush hc dX12_readClass_94 (by decide) ?_
      obtain ⟨g21, hw⟩ := hw
      refine V.ast hc ak_55 g21 dX12_readClass_96 (fun h20 e => ?_)
      replace hw := hw h20 e
      clear e
      refine V.aload_n (t := 12) hc dX12_readClass_97 rfl rfl ?_
      refine V.gR hc gR_X12_40 (i' := o) rfl dX12_readClass_98 ?_
      refine V.iload_n hc dX12_readClass_101 rfl rfl ?_
      refine V.iconst hc dX12_readClass_102 ?_
      refine V.iadd hc dX12_readClass_103 ?_
      refine V.bipush hc dX12_readClass_104 (by decide) ?_
      obtain ⟨g23, hw⟩ := hw
      refine V.ast hc ak_55 g23 dX12_readClass_106 (fun h22 e => ?_)
      replace hw := hw h22 e
      clear e
      refine V.aload_n (t := 12) hc dX12_readClass_107 rfl rfl ?_
      refine V.ldcS hc sl_X12_198 rfl rfl dX12_readClass_108 ?_
      refine V.callVI hc (qX12_is G l _ _ _ _ hw) mo_X12_is ml_X12_174 (by rfl) rfl rfl (as := [(6, 5)]) rfl rfl rfl rfl rfl ⟨Nat.zero_le _, Nat.zero_le _⟩ dX12_readClass_110 (fun x25 h24 hw => ?_)
      obtain ⟨g26, hw⟩ := hw
      refine V.if_eq hc (tgt := 190) dX12_readClass_113 (by decide) g26 (fun c27 => ?_) (fun c27 => ?_)
      · replace hw := hw.1 c27
        refine V.drop (lo' := [(22, o), (0, x9), (1, 0), (1, 0)]) ⟨Or.inr rfl, Or.inr rfl, Or.inl rfl, Or.inr rfl, trivial⟩ ?_
        exact tX12_readClass_190 hc hr  hw
      · replace hw := hw.2 c27
        refine V.aload_n (t := 12) hc dX12_readClass_116 rfl rfl ?_
        refine V.callVV hc (qX12_stepOn G l _ _ _ hw) mo_X12_stepOn ml_X12_185 (by rfl) rfl rfl (as := []) rfl rfl rfl rfl rfl ⟨Nat.zero_le _, Nat.zero_le _⟩ dX12_readClass_117 (fun h30 hw => ?_)
        refine V.aload_n (t := 12) hc dX12_readClass_120 rfl rfl ?_
        refine V.iconst hc dX12_readClass_121 ?_
        refine V.bipush hc dX12_readClass_122 (by decide) ?_
        refine V.callVI hc (qX12_numberNow G l _ _ _ _ _ hw) mo_X12_numberNow ml_X12_182 (by rfl) rfl rfl (as := [(0, 0), (0, 11)]) rfl rfl rfl rfl rfl ⟨Nat.zero_le _, Nat.zero_le _⟩ dX12_readClass_124 (fun x32 h31 hw => ?_)
        refine V.istore_n hc dX12_readClass_127 rfl rfl (lo' := [(22, o), (0, x9), (0, (12 * (12 + x9)) + 4), (0, x32)]) rfl ?_
        refine V.aload_n (t := 12) hc dX12_readClass_128 rfl rfl ?_
        refine V.gI hc gI_X12_160 rfl dX12_readClass_129 ?_
        obtain ⟨g33, hw⟩ := hw
        refine V.if_ne hc (tgt := 169) dX12_readClass_132 (by decide) g33 (fun c34 => ?_) (fun c34 => ?_)
        · replace hw := hw.1 c34
          refine V.drop (lo' := [(22, o), (0, x9), (1, 0), (0, x32)]) ⟨Or.inr rfl, Or.inr rfl, Or.inl rfl, Or.inr rfl, trivial⟩ ?_
          exact tX12_readClass_169 hc hr  hw
        · replace hw := hw.2 c34
          refine V.iload_n hc dX12_readClass_135 rfl rfl ?_
          refine V.iload_n hc dX12_readClass_136 rfl rfl ?_
          obtain ⟨g40, hw⟩ := hw
          obtain ⟨g41, hw⟩ := hw
          refine V.icmp_ge hc (tgt := 164) dX12_readClass_137 (by decide) g40 g41 (fun c42 => ?_) (fun c42 => ?_)
          · replace hw := hw.1 c42
            refine V.drop (lo' := [(22, o), (0, x9), (1, 0), (0, x32)]) ⟨Or.inr rfl, Or.inr rfl, Or.inl rfl, Or.inr rfl, trivial⟩ ?_
            exact tX12_readClass_164 hc hr  hw
          · replace hw := hw.2 c42
            refine V.aload_n (t := 12) hc dX12_readClass_140 rfl rfl ?_
            refine V.gR hc gR_X12_40 (i' := o) rfl dX12_readClass_141 ?_
            refine V.bipush hc dX12_readClass_144 (by decide) ?_
            refine V.bipush hc dX12_readClass_146 (by decide) ?_
            refine V.iload_n hc dX12_readClass_148 rfl rfl ?_
            refine V.iadd hc dX12_readClass_149 ?_
            refine V.imul hc dX12_readClass_150 ?_
            obtain ⟨g44, hw⟩ := hw
            refine V.ald hc ak_55 g44 dX12_readClass_151 ?_
            refine V.iconst hc dX12_readClass_152 ?_
            obtain ⟨g45, hw⟩ := hw
            refine V.icmp_eq hc (tgt := 164) dX12_readClass_153 (by decide) g45 (by omega) (fun c46 => ?_) (fun c46 => ?_)
            · replace hw := hw.1 c46
              refine V.drop (lo' := [(22, o), (0, x9), (1, 0), (0, x32)]) ⟨Or.inr rfl, Or.inr rfl, Or.inl rfl, Or.inr rfl, trivial⟩ ?_
              exact tX12_readClass_164 hc hr  hw
            · replace hw := hw.2 c46
              refine V.aload_n (t := 12) hc dX12_readClass_156 rfl rfl ?_
              refine V.iload_n hc dX12_readClass_157 rfl rfl ?_
              refine V.callVI hc (qX12_hasNewFlow G l _ _ _ _ hw) mo_X12_hasNewFlow ml_X12_200 (by rfl) rfl rfl (as := [(0, x32)]) rfl rfl rfl rfl rfl ⟨Nat.zero_le _, Nat.zero_le _⟩ dX12_readClass_158 (fun x48 h47 hw => ?_)
              obtain ⟨g49, hw⟩ := hw
              refine V.if_eq hc (tgt := 169) dX12_readClass_161 (by decide) g49 (fun c50 => ?_) (fun c50 => ?_)
              · replace hw := hw.1 c50
                refine V.drop (lo' := [(22, o), (0, x9), (1, 0), (0, x32)]) ⟨Or.inr rfl, Or.inr rfl, Or.inl rfl, Or.inr rfl, trivial⟩ ?_
                exact tX12_readClass_169 hc hr  hw
              · replace hw := hw.2 c50
                refine V.drop (lo' := [(22, o), (0, x9), (1, 0), (0, x32)]) ⟨Or.inr rfl, Or.inr rfl, Or.inl rfl, Or.inr rfl, trivial⟩ ?_
                exact tX12_readClass_164 hc hr  hw
  · replace hw := hw.2 c6
    exact V.vret hc hr dX12_readClass_21 hw
theorem qX12_readClass (G : GG) (l : Launch) (o : Int) (h : HP) (P : HP → Prop) (hw : wX12_readClass o h P) : CnV l G yX12_readClass cX12_readClass 4 12 [(22, o)] h P := by
  refine CnV.of (lo := [(22, o), (1, 0), (1, 0), (1, 0)]) (by decide) rfl rfl rfl ?_
  intro p e s m args below meth c hc hr
  have hc : VC G p (rmD 12 0) s m args meth c RX12 cX12_readClass 4 12 := hc
  refine V.aload_n (t := 12) hc dX12_readClass_0 rfl rfl ?_
  refine V.callVI hc (qX12_newClasses G l _ _ _ hw) mo_X12_newClasses ml_X12_188 (by rfl) rfl rfl (as := []) rfl rfl rfl rfl rfl ⟨Nat.zero_le _, Nat.zero_le _⟩ dX12_readClass_1 (fun x2 h1 hw => ?_)
  refine V.bipush hc dX12_readClass_4 (by decide) ?_
  obtain ⟨g3, hw⟩ := hw
  refine V.icmp_ne hc (tgt := 14) dX12_readClass_6 (by decide) g3 (by omega) (fun c4 => ?_) (fun c4 => ?_)
  · replace hw := hw.1 c4
    exact tX12_readClass_14 hc hr  hw
  · replace hw := hw.2 c4
    refine V.aload_n (t := 12) hc dX12_readClass_9 rfl rfl ?_
    refine V.iconst hc dX12_readClass_10 ?_
    refine V.callVV hc (qX12_wrong G l _ _ _ _ hw) mo_X12_wrong ml_X12_178 (by rfl) rfl rfl (as := [(0, 2)]) rfl rfl rfl rfl rfl ⟨Nat.zero_le _, Nat.zero_le _⟩ dX12_readClass_11 (fun h51 hw => ?_)
    exact tX12_readClass_14 hc hr  hw
theorem tX12_readFlow_82 {G : GG} {p : Program} {l : Launch} {e : Jvm.Env} {s : State} {m : MethodId} {args : Array Value} {below : List Frame} {meth : Method} {c : Code} {P : HP → Prop} (hc : VC G p (rmD 11 0) s m args meth c RX12 cX12_readFlow 3 11) (hr : meth.sig.returnType = none) {o : Int} {l1 : Int} {l2 : Int} {h : HP} (hw : wX12_readFlow_82 o l1 l2 P h) : V G p l e (rmD 11 0) s m args below meth c (MQ below (QV G P) args s 0 0 (va_Aof G)) 3 82 [(22, o), (0, l1), (0, l2)] [] h 0 := by
  refine V.aload_n (t := 12) hc dX12_readFlow_82 rfl rfl ?_
  refine V.gR hc gR_X12_28 (i' := o) rfl dX12_readFlow_83 ?_
  refine V.bipush hc dX12_readFlow_86 (by decide) ?_
  refine V.iload_n hc dX12_readFlow_88 rfl rfl ?_
  refine V.iadd hc dX12_readFlow_89 ?_
  refine V.iload_n hc dX12_readFlow_90 rfl rfl ?_
  obtain ⟨g13, hw⟩ := hw
  refine V.ast hc ak_51 g13 dX12_readFlow_91 (fun h12 e => ?_)
  replace hw := hw h12 e
  clear e
  refine V.aload_n (t := 12) hc dX12_readFlow_92 rfl rfl ?_
  refine V.gR hc gR_X12_31 (i' := o) rfl dX12_readFlow_93 ?_
  refine V.bipush hc dX12_readFlow_96 (by decide) ?_
  refine V.iload_n hc dX12_readFlow_98 rfl rfl ?_
  refine V.iadd hc dX12_readFlow_99 ?_
  refine V.aload_n (t := 12) hc dX12_readFlow_100 rfl rfl ?_
  refine V.iconst hc dX12_readFlow_101 ?_
  refine V.sipush hc dX12_readFlow_102 (by decide) ?_
  refine V.callVI hc (qX12_readNumber G l _ _ _ _ _ hw) mo_X12_readNumber ml_X12_195 (by rfl) rfl rfl (as := [(0, 1), (0, 200)]) rfl rfl rfl rfl rfl ⟨Nat.zero_le _, Nat.zero_le _⟩ dX12_readFlow_105 (fun x15 h14 hw => ?_)
  obtain ⟨g17, hw⟩ := hw
  refine V.ast hc ak_52 g17 dX12_readFlow_108 (fun h16 e => ?_)
  replace hw := hw h16 e
  clear e
  refine V.aload_n (t := 12) hc dX12_readFlow_109 rfl rfl ?_
  refine V.gR hc gR_X12_34 (i' := o) rfl dX12_readFlow_110 ?_
  refine V.bipush hc dX12_readFlow_113 (by decide) ?_
  refine V.iload_n hc dX12_readFlow_115 rfl rfl ?_
  refine V.iadd hc dX12_readFlow_116 ?_
  refine V.aload_n (t := 12) hc dX12_readFlow_117 rfl rfl ?_
  refine V.iconst hc dX12_readFlow_118 ?_
  refine V.sipush hc dX12_readFlow_119 (by decide) ?_
  refine V.callVI hc (qX12_readNumber G l _ _ _ _ _ hw) mo_X12_readNumber ml_X12_195 (by rfl) rfl rfl (as := [(0, 0), (0, 199)]) rfl rfl rfl rfl rfl ⟨Nat.zero_le _, Nat.zero_le _⟩ dX12_readFlow_122 (fun x19 h18 hw => ?_)
  obtain ⟨g21, hw⟩ := hw
  refine V.ast hc ak_53 g21 dX12_readFlow_125 (fun h20 e => ?_)
  replace hw := hw h20 e
  clear e
  refine V.aload_n (t := 12) hc dX12_readFlow_126 rfl rfl ?_
  refine V.gR hc gR_X12_37 (i' := o) rfl dX12_readFlow_127 ?_
  refine V.bipush hc dX12_readFlow_130 (by decide) ?_
  refine V.iload_n hc dX12_readFlow_132 rfl rfl ?_
  refine V.iadd hc dX12_readFlow_133 ?_
  refine V.aload_n (t := 12) hc dX12_readFlow_134 rfl rfl ?_
  refine V.iconst hc dX12_readFlow_135 ?_
  refine V.bipush hc dX12_readFlow_136 (by decide) ?_
  refine V.callVI hc (qX12_readNumber G l _ _ _ _ _ hw) mo_X12_readNumber ml_X12_195 (by rfl) rfl rfl (as := [(0, 1), (0, 64)]) rfl rfl rfl rfl rfl ⟨Nat.zero_le _, Nat.zero_le _⟩ dX12_readFlow_138 (fun x23 h22 hw => ?_)
  obtain ⟨g25, hw⟩ := hw
  refine V.ast hc ak_54 g25 dX12_readFlow_141 (fun h24 e => ?_)
  replace hw := hw h24 e
  clear e
  refine V.aload_n (t := 12) hc dX12_readFlow_142 rfl rfl ?_
  refine V.gR hc gR_X12_21 (i' := o) rfl dX12_readFlow_143 ?_
  refine V.iconst hc dX12_readFlow_146 ?_
  refine V.dup2 hc dX12_readFlow_147 (by simp) (by simp) ?_
  refine V.ald hc ak_49 (by omega) dX12_readFlow_148 ?_
  refine V.iconst hc dX12_readFlow_149 ?_
  refine V.iadd hc dX12_readFlow_150 ?_
  refine V.ast hc ak_49 (by omega) dX12_readFlow_151 (fun h26 e => ?_)
  replace hw := hw h26 e
  clear e
  exact V.vret hc hr dX12_readFlow_152 hw
theorem tX12_readFlow_71 {G : GG} {p : Program} {l : Launch} {e : Jvm.Env} {s : State} {m : MethodId} {args : Array Value} {below : List Frame} {meth : Method} {c : Code} {P : HP → Prop} (hc : VC G p (rmD 11 0) s m args meth c RX12 cX12_readFlow 3 11) (hr : meth.sig.returnType = none) {o : Int} {l1 : Int} {l2 : Int} {h : HP} (hw : wX12_readFlow_71 o l1 l2 P h) : V G p l e (rmD 11 0) s m args below meth c (MQ below (QV G P) args s 0 0 (va_Aof G)) 3 71 [(22, o), (0, l1), (0, l2)] [] h 0 := by
  refine V.aload_n (t := 12) hc dX12_readFlow_71 rfl rfl ?_
  refine V.gI hc gI_X12_160 rfl dX12_readFlow_72 ?_
  obtain ⟨g10, hw⟩ := hw
  refine V.if_ne hc (tgt := 82) dX12_readFlow_75 (by decide) g10 (fun c11 => ?_) (fun c11 => ?_)
  · replace hw := hw.1 c11
    exact tX12_readFlow_82 hc hr  hw
  · replace hw := hw.2 c11
    refine V.aload_n (t := 12) hc dX12_readFlow_78 rfl rfl ?_
    refine V.callVV hc (qX12_stepOn G l _ _ _ hw) mo_X12_stepOn ml_X12_185 (by rfl) rfl rfl (as := []) rfl rfl rfl rfl rfl ⟨Nat.zero_le _, Nat.zero_le _⟩ dX12_readFlow_79 (fun h27 hw => ?_)
    exact tX12_readFlow_82 hc hr  hw
theorem tX12_readFlow_66 {G : GG} {p : Program} {l : Launch} {e : Jvm.Env} {s : State} {m : MethodId} {args : Array Value} {below : List Frame} {meth : Method} {c : Code} {P : HP → Prop} (hc : VC G p (rmD 11 0) s m args meth c RX12 cX12_readFlow 3 11) (hr : meth.sig.returnType = none) {o : Int} {l1 : Int} {l2 : Int} {h : HP} (hw : wX12_readFlow_66 o l1 l2 P h) : V G p l e (rmD 11 0) s m args below meth c (MQ below (QV G P) args s 0 0 (va_Aof G)) 3 66 [(22, o), (0, l1), (0, l2)] [] h 0 := by
  refine V.aload_n (t := 12) hc dX12_readFlow_66 rfl rfl ?_
  refine V.iconst hc dX12_readFlow_67 ?_
  refine V.callVV hc (qX12_wrong G l _ _ _ _ hw) mo_X12_wrong ml_X12_178 (by rfl) rfl rfl (as := [(0, 3)]) rfl rfl rfl rfl rfl ⟨Nat.zero_le _, Nat.zero_le _⟩ dX12_readFlow_68 (fun h33 hw => ?_)
  exact tX12_readFlow_71 hc hr  hw
theorem tX12_readFlow_16 {G : GG} {p : Program} {l : Launch} {e : Jvm.Env} {s : State} {m : MethodId} {args : Array Value} {below : List Frame} {meth : Method} {c : Code} {P : HP → Prop} (hc : VC G p (rmD 11 0) s m args meth c RX12 cX12_readFlow 3 11) (hr : meth.sig.returnType = none) {o : Int} {h : HP} (hw : wX12_readFlow_16 o P h) : V G p l e (rmD 11 0) s m args below meth c (MQ below (QV G P) args s 0 0 (va_Aof G)) 3 16 [(22, o), (1, 0), (1, 0)] [] h 0 := by
  refine V.aload_n (t := 12) hc dX12_readFlow_16 rfl rfl ?_
  refine V.gI hc gI_X12_160 rfl dX12_readFlow_17 ?_
  obtain ⟨g3, hw⟩ := hw
  refine V.if_eq hc (tgt := 24) dX12_readFlow_20 (by decide) g3 (fun c4 => ?_) (fun c4 => ?_)
  · replace hw := hw.1 c4
    refine V.aload_n (t := 12) hc dX12_readFlow_24 rfl rfl ?_
    refine V.callVV hc (qX12_stepOn G l _ _ _ hw) mo_X12_stepOn ml_X12_185 (by rfl) rfl rfl (as := []) rfl rfl rfl rfl rfl ⟨Nat.zero_le _, Nat.zero_le _⟩ dX12_readFlow_25 (fun h5 hw => ?_)
    refine V.aload_n (t := 12) hc dX12_readFlow_28 rfl rfl ?_
    refine V.gR hc gR_X12_21 (i' := o) rfl dX12_readFlow_29 ?_
    refine V.iconst hc dX12_readFlow_32 ?_
    refine V.ald hc ak_49 (by omega) dX12_readFlow_33 ?_
    refine V.istore_n hc dX12_readFlow_34 rfl rfl (lo' := [(22, o), (0, h5 49 o 3), (1, 0)]) rfl ?_
    refine V.aload_n (t := 12) hc dX12_readFlow_35 rfl rfl ?_
    refine V.iconst hc dX12_readFlow_36 ?_
    refine V.bipush hc dX12_readFlow_37 (by decide) ?_
    refine V.callVI hc (qX12_numberNow G l _ _ _ _ _ hw) mo_X12_numberNow ml_X12_182 (by rfl) rfl rfl (as := [(0, 0), (0, 11)]) rfl rfl rfl rfl rfl ⟨Nat.zero_le _, Nat.zero_le _⟩ dX12_readFlow_39 (fun x7 h6 hw => ?_)
    refine V.istore_n hc dX12_readFlow_42 rfl rfl (lo' := [(22, o), (0, h5 49 o 3), (0, x7)]) rfl ?_
    refine V.aload_n (t := 12) hc dX12_readFlow_43 rfl rfl ?_
    refine V.gI hc gI_X12_160 rfl dX12_readFlow_44 ?_
    obtain ⟨g8, hw⟩ := hw
    refine V.if_ne hc (tgt := 71) dX12_readFlow_47 (by decide) g8 (fun c9 => ?_) (fun c9 => ?_)
    · replace hw := hw.1 c9
      exact tX12_readFlow_71 hc hr  hw
    · replace hw := hw.2 c9
      refine V.iload_n hc dX12_readFlow_50 rfl rfl ?_
      refine V.aload_n (t := 12) hc dX12_readFlow_51 rfl rfl ?_
      refine V.callVI hc (qX12_newClasses G l _ _ _ hw) mo_X12_newClasses ml_X12_188 (by rfl) rfl rfl (as := []) rfl rfl rfl rfl rfl ⟨Nat.zero_le _, Nat.zero_le _⟩ dX12_readFlow_52 (fun x29 h28 hw => ?_)
      obtain ⟨g30, hw⟩ := hw
      obtain ⟨g31, hw⟩ := hw
      refine V.icmp_ge hc (tgt := 66) dX12_readFlow_55 (by decide) g30 g31 (fun c32 => ?_) (fun c32 => ?_)
      · replace hw := hw.1 c32
        exact tX12_readFlow_66 hc hr  hw
      · replace hw := hw.2 c32
        refine V.aload_n (t := 12) hc dX12_readFlow_58 rfl rfl ?_
        refine V.iload_n hc dX12_readFlow_59 rfl rfl ?_
        refine V.callVI hc (qX12_isNewLeaf G l _ _ _ _ hw) mo_X12_isNewLeaf ml_X12_206 (by rfl) rfl rfl (as := [(0, x7)]) rfl rfl rfl rfl rfl ⟨Nat.zero_le _, Nat.zero_le _⟩ dX12_readFlow_60 (fun x35 h34 hw => ?_)
        obtain ⟨g36, hw⟩ := hw
        refine V.if_ne hc (tgt := 71) dX12_readFlow_63 (by decide) g36 (fun c37 => ?_) (fun c37 => ?_)
        · replace hw := hw.1 c37
          exact tX12_readFlow_71 hc hr  hw
        · replace hw := hw.2 c37
          exact tX12_readFlow_66 hc hr  hw
  · replace hw := hw.2 c4
    exact V.vret hc hr dX12_readFlow_23 hw
theorem qX12_readFlow (G : GG) (l : Launch) (o : Int) (h : HP) (P : HP → Prop) (hw : wX12_readFlow o h P) : CnV l G yX12_readFlow cX12_readFlow 3 11 [(22, o)] h P := by
  refine CnV.of (lo := [(22, o), (1, 0), (1, 0)]) (by decide) rfl rfl rfl ?_
  intro p e s m args below meth c hc hr
  have hc : VC G p (rmD 11 0) s m args meth c RX12 cX12_readFlow 3 11 := hc
  refine V.aload_n (t := 12) hc dX12_readFlow_0 rfl rfl ?_
  refine V.gR hc gR_X12_21 (i' := o) rfl dX12_readFlow_1 ?_
  refine V.iconst hc dX12_readFlow_4 ?_
  refine V.ald hc ak_49 (by omega) dX12_readFlow_5 ?_
  refine V.bipush hc dX12_readFlow_6 (by decide) ?_
  obtain ⟨g1, hw⟩ := hw
  refine V.icmp_ne hc (tgt := 16) dX12_readFlow_8 (by decide) g1 (by omega) (fun c2 => ?_) (fun c2 => ?_)
  · replace hw := hw.1 c2
    exact tX12_readFlow_16 hc hr  hw
  · replace hw := hw.2 c2
    refine V.aload_n (t := 12) hc dX12_readFlow_11 rfl rfl ?_
    refine V.iconst hc dX12_readFlow_12 ?_
    refine V.callVV hc (qX12_wrong G l _ _ _ _ hw) mo_X12_wrong ml_X12_178 (by rfl) rfl rfl (as := [(0, 2)]) rfl rfl rfl rfl rfl ⟨Nat.zero_le _, Nat.zero_le _⟩ dX12_readFlow_13 (fun h38 hw => ?_)
    exact tX12_readFlow_16 hc hr  hw
theorem tX12_readClause_37 {G : GG} {p : Program} {l : Launch} {e : Jvm.Env} {s : State} {m : MethodId} {args : Array Value} {below : List Frame} {meth : Method} {c : Code} {P : HP → Prop} (hc : VC G p (rmD 13 0) s m args meth c RX12 cX12_readClause 1 13) (hr : meth.sig.returnType = none) {o : Int} {h : HP} (hw : wX12_readClause_37 o P h) : V G p l e (rmD 13 0) s m args below meth c (MQ below (QV G P) args s 0 0 (va_Aof G)) 1 37 [(22, o)] [] h 0 := by
  refine V.aload_n (t := 12) hc dX12_readClause_37 rfl rfl ?_
  refine V.gI hc gI_X12_160 rfl dX12_readClause_38 ?_
  obtain ⟨g10, hw⟩ := hw
  refine V.if_ne hc (tgt := 57) dX12_readClause_41 (by decide) g10 (fun c11 => ?_) (fun c11 => ?_)
  · replace hw := hw.1 c11
    refine V.aload_n (t := 12) hc dX12_readClause_57 rfl rfl ?_
    refine V.gI hc gI_X12_160 rfl dX12_readClause_58 ?_
    obtain ⟨g12, hw⟩ := hw
    refine V.if_ne hc (tgt := 68) dX12_readClause_61 (by decide) g12 (fun c13 => ?_) (fun c13 => ?_)
    · replace hw := hw.1 c13
      exact V.vret hc hr dX12_readClause_68 hw
    · replace hw := hw.2 c13
      refine V.aload_n (t := 12) hc dX12_readClause_64 rfl rfl ?_
      refine V.callVV hc (qX12_stepOn G l _ _ _ hw) mo_X12_stepOn ml_X12_185 (by rfl) rfl rfl (as := []) rfl rfl rfl rfl rfl ⟨Nat.zero_le _, Nat.zero_le _⟩ dX12_readClause_65 (fun h14 hw => ?_)
      exact V.vret hc hr dX12_readClause_68 hw
  · replace hw := hw.2 c11
    refine V.aload_n (t := 12) hc dX12_readClause_44 rfl rfl ?_
    refine V.gI hc gI_X12_137 rfl dX12_readClause_45 ?_
    refine V.iconst hc dX12_readClause_48 ?_
    obtain ⟨g15, hw⟩ := hw
    refine V.icmp_eq hc (tgt := 57) dX12_readClause_49 (by decide) g15 (by omega) (fun c16 => ?_) (fun c16 => ?_)
    · replace hw := hw.1 c16
      refine V.aload_n (t := 12) hc dX12_readClause_57 rfl rfl ?_
      refine V.gI hc gI_X12_160 rfl dX12_readClause_58 ?_
      obtain ⟨g17, hw⟩ := hw
      refine V.if_ne hc (tgt := 68) dX12_readClause_61 (by decide) g17 (fun c18 => ?_) (fun c18 => ?_)
      · replace hw := hw.1 c18
        exact V.vret hc hr dX12_readClause_68 hw
      · replace hw := hw.2 c18
        refine V.aload_n (t := 12) hc dX12_readClause_64 rfl rfl ?_
        refine V.callVV hc (qX12_stepOn G l _ _ _ hw) mo_X12_stepOn ml_X12_185 (by rfl) rfl rfl (as := []) rfl rfl rfl rfl rfl ⟨Nat.zero_le _, Nat.zero_le _⟩ dX12_readClause_65 (fun h19 hw => ?_)
        exact V.vret hc hr dX12_readClause_68 hw
    · replace hw := hw.2 c16
      refine V.aload_n (t := 12) hc dX12_readClause_52 rfl rfl ?_
      refine V.iconst hc dX12_readClause_53 ?_
      refine V.callVV hc (qX12_wrong G l _ _ _ _ hw) mo_X12_wrong ml_X12_178 (by rfl) rfl rfl (as := [(0, 1)]) rfl rfl rfl rfl rfl ⟨Nat.zero_le _, Nat.zero_le _⟩ dX12_readClause_54 (fun h20 hw => ?_)
      refine V.aload_n (t := 12) hc dX12_readClause_57 rfl rfl ?_
      refine V.gI hc gI_X12_160 rfl dX12_readClause_58 ?_
      obtain ⟨g21, hw⟩ := hw
      refine V.if_ne hc (tgt := 68) dX12_readClause_61 (by decide) g21 (fun c22 => ?_) (fun c22 => ?_)
      · replace hw := hw.1 c22
        exact V.vret hc hr dX12_readClause_68 hw
      · replace hw := hw.2 c22
        refine V.aload_n (t := 12) hc dX12_readClause_64 rfl rfl ?_
        refine V.callVV hc (qX12_stepOn G l _ _ _ hw) mo_X12_stepOn ml_X12_185 (by rfl) rfl rfl (as := []) rfl rfl rfl rfl rfl ⟨Nat.zero_le _, Nat.zero_le _⟩ dX12_readClause_65 (fun h23 hw => ?_)
        exact V.vret hc hr dX12_readClause_68 hw
theorem qX12_readClause (G : GG) (l : Launch) (o : Int) (h : HP) (P : HP → Prop) (hw : wX12_readClause o h P) : CnV l G yX12_readClause cX12_readClause 1 13 [(22, o)] h P := by
  refine CnV.of (lo := [(22, o)]) (by decide) rfl rfl rfl ?_
  intro p e s m args below meth c hc hr
  have hc : VC G p (rmD 13 0) s m args meth c RX12 cX12_readClause 1 13 := hc
  refine V.aload_n (t := 12) hc dX12_readClause_0 rfl rfl ?_
  refine V.ldcS hc sl_X12_209 rfl rfl dX12_readClause_1 ?_
  refine V.callVI hc (qX12_is G l _ _ _ _ hw) mo_X12_is ml_X12_174 (by rfl) rfl rfl (as := [(6, 3)]) rfl rfl rfl rfl rfl ⟨Nat.zero_le _, Nat.zero_le _⟩ dX12_readClause_3 (fun x2 h1 hw => ?_)
  obtain ⟨g3, hw⟩ := hw
  refine V.if_eq hc (tgt := 16) dX12_readClause_6 (by decide) g3 (fun c4 => ?_) (fun c4 => ?_)
  · replace hw := hw.1 c4
    refine V.aload_n (t := 12) hc dX12_readClause_16 rfl rfl ?_
    refine V.ldcS hc sl_X12_214 rfl rfl dX12_readClause_17 ?_
    refine V.callVI hc (qX12_is G l _ _ _ _ hw) mo_X12_is ml_X12_174 (by rfl) rfl rfl (as := [(6, 4)]) rfl rfl rfl rfl rfl ⟨Nat.zero_le _, Nat.zero_le _⟩ dX12_readClause_19 (fun x6 h5 hw => ?_)
    obtain ⟨g7, hw⟩ := hw
    refine V.if_eq hc (tgt := 32) dX12_readClause_22 (by decide) g7 (fun c8 => ?_) (fun c8 => ?_)
    · replace hw := hw.1 c8
      refine V.aload_n (t := 12) hc dX12_readClause_32 rfl rfl ?_
      refine V.iconst hc dX12_readClause_33 ?_
      refine V.callVV hc (qX12_wrong G l _ _ _ _ hw) mo_X12_wrong ml_X12_178 (by rfl) rfl rfl (as := [(0, 1)]) rfl rfl rfl rfl rfl ⟨Nat.zero_le _, Nat.zero_le _⟩ dX12_readClause_34 (fun h9 hw => ?_)
      exact tX12_readClause_37 hc hr  hw
    · replace hw := hw.2 c8
      refine V.aload_n (t := 12) hc dX12_readClause_25 rfl rfl ?_
      refine V.callVV hc (qX12_readFlow G l _ _ _ hw) mo_X12_readFlow ml_X12_216 (by rfl) rfl rfl (as := []) rfl rfl rfl rfl rfl ⟨Nat.zero_le _, Nat.zero_le _⟩ dX12_readClause_26 (fun h24 hw => ?_)
      refine V.goto hc (tgt := 37) dX12_readClause_29 (by decide) ?_
      exact tX12_readClause_37 hc hr  hw
  · replace hw := hw.2 c4
    refine V.aload_n (t := 12) hc dX12_readClause_9 rfl rfl ?_
    refine V.callVV hc (qX12_readClass G l _ _ _ hw) mo_X12_readClass ml_X12_211 (by rfl) rfl rfl (as := []) rfl rfl rfl rfl rfl ⟨Nat.zero_le _, Nat.zero_le _⟩ dX12_readClause_10 (fun h25 hw => ?_)
    refine V.goto hc (tgt := 37) dX12_readClause_13 (by decide) ?_
    exact tX12_readClause_37 hc hr  hw
theorem tX12_takeHalf_2 {G : GG} {p : Program} {l : Launch} {e : Jvm.Env} {s : State} {m : MethodId} {args : Array Value} {below : List Frame} {meth : Method} {c : Code} {P : HP → Prop} (hc : VC G p (rmD 8 0) s m args meth c RX12 cX12_takeHalf 2 8) (hr : meth.sig.returnType = none) {k0 : Nat} {i0 : Int} {k0_ : Nat} {i0_ : Int} {K27 : HP → Prop} (hK27 : ∀  (h : HP), K27  h → V G p l e (rmD 8 0) s m args below meth c (MQ below (QV G P) args s 0 0 (va_Aof G)) 2 27 [(1, 0), (1, 0)] [] h 0) : ∀ (f : Nat) (l1 : Int) (h : HP), wX12_takeHalf_2 k0 i0 k0_ i0_ K27 f l1 h → V G p l e (rmD 8 0) s m args below meth c (MQ below (QV G P) args s 0 0 (va_Aof G)) 2 2 [(k0_ + 10, i0_), (0, l1)] [] h 0 := by
  intro f
  induction f with
  | zero =>
    intro l1 h hw
    exact hw.elim
  | succ f ih =>
    intro l1 h hw
    refine V.iload_n hc dX12_takeHalf_2 rfl rfl ?_
    refine V.aload_n (t := k0_) hc dX12_takeHalf_3 rfl rfl ?_
    obtain ⟨g1, hw⟩ := hw
    refine V.aln hc ⟨g1, rfl⟩ dX12_takeHalf_4 ?_
    refine V.iconst hc dX12_takeHalf_5 ?_
    obtain ⟨g2, hw⟩ := hw
    refine V.idiv hc g2 (by omega) dX12_takeHalf_6 ?_
    obtain ⟨g3, hw⟩ := hw
    obtain ⟨g4, hw⟩ := hw
    refine V.icmp_ge hc (tgt := 27) dX12_takeHalf_7 (by decide) g3 g4 (fun c5 => ?_) (fun c5 => ?_)
    · replace hw := hw.1 c5
      refine V.drop (lo' := [(1, 0), (1, 0)]) ⟨Or.inl rfl, Or.inl rfl, trivial⟩ ?_
      exact hK27 _ hw
    · replace hw := hw.2 c5
      refine V.aload_n (t := k0_) hc dX12_takeHalf_10 rfl rfl ?_
      refine V.iload_n hc dX12_takeHalf_11 rfl rfl ?_
      refine V.aload_n (t := k0_) hc dX12_takeHalf_12 rfl rfl ?_
      refine V.aload_n (t := k0_) hc dX12_takeHalf_13 rfl rfl ?_
      obtain ⟨g6, hw⟩ := hw
      refine V.aln hc ⟨g6, rfl⟩ dX12_takeHalf_14 ?_
      refine V.iconst hc dX12_takeHalf_15 ?_
      obtain ⟨g7, hw⟩ := hw
      refine V.idiv hc g7 (by omega) dX12_takeHalf_16 ?_
      refine V.iload_n hc dX12_takeHalf_17 rfl rfl ?_
      refine V.iadd hc dX12_takeHalf_18 ?_
      obtain ⟨g8, hw⟩ := hw
      obtain ⟨g9, hw⟩ := hw
      refine V.ald hc ⟨g8, rfl⟩ g9 dX12_takeHalf_19 ?_
      obtain ⟨g11, hw⟩ := hw
      obtain ⟨g12, hw⟩ := hw
      refine V.ast hc ⟨g11, rfl⟩ g12 dX12_takeHalf_20 (fun h10 e => ?_)
      replace hw := hw h10 e
      clear e
      refine V.iinc hc dX12_takeHalf_21 rfl rfl (lo' := [(k0_ + 10, i0_), (0, l1 + 1)]) rfl ?_
      refine V.goto hc (tgt := 2) dX12_takeHalf_24 (by decide) ?_
      exact ih _ _ hw
theorem qX12_takeHalf (G : GG) (l : Launch) (k0 : Nat) (i0 : Int) (h : HP) (P : HP → Prop) (hw : wX12_takeHalf k0 i0 h P) : CnV l G yX12_takeHalf cX12_takeHalf 2 8 [(k0 + 10, i0)] h P := by
  refine CnV.of (lo := [(k0 + 10, i0), (1, 0)]) (by decide) rfl rfl rfl ?_
  intro p e s m args below meth c hc hr
  have hc : VC G p (rmD 8 0) s m args meth c RX12 cX12_takeHalf 2 8 := hc
  refine V.iconst hc dX12_takeHalf_0 ?_
  refine V.istore_n hc dX12_takeHalf_1 rfl rfl (lo' := [(k0 + 10, i0), (0, 0)]) rfl ?_
  obtain ⟨f13, hw⟩ := hw
  refine tX12_takeHalf_2 hc hr ?_ f13 _ _ hw
  · intro h14 hw
    exact V.vret hc hr dX12_takeHalf_27 hw
theorem tX12_takeOver_51 {G : GG} {p : Program} {l : Launch} {e : Jvm.Env} {s : State} {m : MethodId} {args : Array Value} {below : List Frame} {meth : Method} {c : Code} {P : HP → Prop} (hc : VC G p (rmD 9 0) s m args meth c RX12 cX12_takeOver 3 9) (hr : meth.sig.returnType = none) {o : Int} {K71 : HP → Prop} (hK71 : ∀  (h : HP), K71  h → V G p l e (rmD 9 0) s m args below meth c (MQ below (QV G P) args s 0 0 (va_Aof G)) 3 71 [(22, o), (1, 0), (1, 0)] [] h 0) : ∀ (f : Nat) (l1 : Int) (h : HP), wX12_takeOver_51 o K71 f l1 h → V G p l e (rmD 9 0) s m args below meth c (MQ below (QV G P) args s 0 0 (va_Aof G)) 3 51 [(22, o), (0, l1), (1, 0)] [] h 0 := by
  intro f
  induction f with
  | zero =>
    intro l1 h hw
    exact hw.elim
  | succ f ih =>
    intro l1 h hw
    refine V.iload_n hc dX12_takeOver_51 rfl rfl ?_
    refine V.sipush hc dX12_takeOver_52 (by decide) ?_
    obtain ⟨g8, hw⟩ := hw
    refine V.icmp_ge hc (tgt := 71) dX12_takeOver_55 (by decide) g8 (by omega) (fun c9 => ?_) (fun c9 => ?_)
    · replace hw := hw.1 c9
      refine V.drop (lo' := [(22, o), (1, 0), (1, 0)]) ⟨Or.inr rfl, Or.inl rfl, Or.inr rfl, trivial⟩ ?_
      exact hK71 _ hw
    · replace hw := hw.2 c9
      refine V.aload_n (t := 12) hc dX12_takeOver_58 rfl rfl ?_
      refine V.gR hc gR_X12_43 (i' := o) rfl dX12_takeOver_59 ?_
      refine V.iload_n hc dX12_takeOver_62 rfl rfl ?_
      refine V.iconst hc dX12_takeOver_63 ?_
      obtain ⟨g11, hw⟩ := hw
      refine V.ast hc ak_56 g11 dX12_takeOver_64 (fun h10 e => ?_)
      replace hw := hw h10 e
      clear e
      refine V.iinc hc dX12_takeOver_65 rfl rfl (lo' := [(22, o), (0, l1 + 1), (1, 0)]) rfl ?_
      refine V.goto hc (tgt := 51) dX12_takeOver_68 (by decide) ?_
      exact ih _ _ hw
theorem tX12_takeOver_85 {G : GG} {p : Program} {l : Launch} {e : Jvm.Env} {s : State} {m : MethodId} {args : Array Value} {below : List Frame} {meth : Method} {c : Code} {P : HP → Prop} (hc : VC G p (rmD 9 0) s m args meth c RX12 cX12_takeOver 3 9) (hr : meth.sig.returnType = none) {o : Int} {l1 : Int} {K120 : HP → Prop} (hK120 : ∀  (h : HP), K120  h → V G p l e (rmD 9 0) s m args below meth c (MQ below (QV G P) args s 0 0 (va_Aof G)) 3 120 [(22, o), (0, l1), (1, 0)] [] h 0) : ∀ (f : Nat) (l2 : Int) (h : HP), wX12_takeOver_85 o l1 K120 f l2 h → V G p l e (rmD 9 0) s m args below meth c (MQ below (QV G P) args s 0 0 (va_Aof G)) 3 85 [(22, o), (0, l1), (0, l2)] [] h 0 := by
  intro f
  induction f with
  | zero =>
    intro l2 h hw
    exact hw.elim
  | succ f ih =>
    intro l2 h hw
    refine V.iload_n hc dX12_takeOver_85 rfl rfl ?_
    refine V.bipush hc dX12_takeOver_86 (by decide) ?_
    obtain ⟨g17, hw⟩ := hw
    refine V.icmp_ge hc (tgt := 120) dX12_takeOver_88 (by decide) g17 (by omega) (fun c18 => ?_) (fun c18 => ?_)
    · replace hw := hw.1 c18
      refine V.drop (lo' := [(22, o), (0, l1), (1, 0)]) ⟨Or.inr rfl, Or.inr rfl, Or.inl rfl, trivial⟩ ?_
      exact hK120 _ hw
    · replace hw := hw.2 c18
      refine V.aload_n (t := 12) hc dX12_takeOver_91 rfl rfl ?_
      refine V.gR hc gR_X12_43 (i' := o) rfl dX12_takeOver_92 ?_
      refine V.sipush hc dX12_takeOver_95 (by decide) ?_
      refine V.iload_n hc dX12_takeOver_98 rfl rfl ?_
      refine V.imul hc dX12_takeOver_99 ?_
      refine V.iload_n hc dX12_takeOver_100 rfl rfl ?_
      refine V.iadd hc dX12_takeOver_101 ?_
      refine V.aload_n (t := 12) hc dX12_takeOver_102 rfl rfl ?_
      refine V.gR hc gR_X12_40 (i' := o) rfl dX12_takeOver_103 ?_
      refine V.bipush hc dX12_takeOver_106 (by decide) ?_
      refine V.iload_n hc dX12_takeOver_108 rfl rfl ?_
      refine V.imul hc dX12_takeOver_109 ?_
      refine V.iload_n hc dX12_takeOver_110 rfl rfl ?_
      refine V.iadd hc dX12_takeOver_111 ?_
      obtain ⟨g19, hw⟩ := hw
      refine V.ald hc ak_55 g19 dX12_takeOver_112 ?_
      obtain ⟨g21, hw⟩ := hw
      refine V.ast hc ak_56 g21 dX12_takeOver_113 (fun h20 e => ?_)
      replace hw := hw h20 e
      clear e
      refine V.iinc hc dX12_takeOver_114 rfl rfl (lo' := [(22, o), (0, l1), (0, l2 + 1)]) rfl ?_
      refine V.goto hc (tgt := 85) dX12_takeOver_117 (by decide) ?_
      exact ih _ _ hw
theorem tX12_takeOver_73 {G : GG} {p : Program} {l : Launch} {e : Jvm.Env} {s : State} {m : MethodId} {args : Array Value} {below : List Frame} {meth : Method} {c : Code} {P : HP → Prop} (hc : VC G p (rmD 9 0) s m args meth c RX12 cX12_takeOver 3 9) (hr : meth.sig.returnType = none) {o : Int} {K126 : HP → Prop} (hK126 : ∀  (h : HP), K126  h → V G p l e (rmD 9 0) s m args below meth c (MQ below (QV G P) args s 0 0 (va_Aof G)) 3 126 [(22, o), (1, 0), (1, 0)] [] h 0) : ∀ (f : Nat) (l1 : Int) (h : HP), wX12_takeOver_73 o K126 f l1 h → V G p l e (rmD 9 0) s m args below meth c (MQ below (QV G P) args s 0 0 (va_Aof G)) 3 73 [(22, o), (0, l1), (1, 0)] [] h 0 := by
  intro f
  induction f with
  | zero =>
    intro l1 h hw
    exact hw.elim
  | succ f ih =>
    intro l1 h hw
    refine V.iload_n hc dX12_takeOver_73 rfl rfl ?_
    refine V.aload_n (t := 12) hc dX12_takeOver_74 rfl rfl ?_
    refine V.gR hc gR_X12_21 (i' := o) rfl dX12_takeOver_75 ?_
    refine V.iconst hc dX12_takeOver_78 ?_
    refine V.ald hc ak_49 (by omega) dX12_takeOver_79 ?_
    obtain ⟨g14, hw⟩ := hw
    obtain ⟨g15, hw⟩ := hw
    refine V.icmp_ge hc (tgt := 126) dX12_takeOver_80 (by decide) g14 g15 (fun c16 => ?_) (fun c16 => ?_)
    · replace hw := hw.1 c16
      refine V.drop (lo' := [(22, o), (1, 0), (1, 0)]) ⟨Or.inr rfl, Or.inl rfl, Or.inr rfl, trivial⟩ ?_
      exact hK126 _ hw
    · replace hw := hw.2 c16
      refine V.iconst hc dX12_takeOver_83 ?_
      refine V.istore_n hc dX12_takeOver_84 rfl rfl (lo' := [(22, o), (0, l1), (0, 0)]) rfl ?_
      obtain ⟨f22, hw⟩ := hw
      refine tX12_takeOver_85 hc hr ?_ f22 _ _ hw
      · intro h23 hw
        refine V.iinc hc dX12_takeOver_120 rfl rfl (lo' := [(22, o), (0, l1 + 1), (1, 0)]) rfl ?_
        refine V.goto hc (tgt := 73) dX12_takeOver_123 (by decide) ?_
        exact ih _ _ hw
theorem tX12_takeOver_128 {G : GG} {p : Program} {l : Launch} {e : Jvm.Env} {s : State} {m : MethodId} {args : Array Value} {below : List Frame} {meth : Method} {c : Code} {P : HP → Prop} (hc : VC G p (rmD 9 0) s m args meth c RX12 cX12_takeOver 3 9) (hr : meth.sig.returnType = none) {o : Int} {K160 : HP → Prop} (hK160 : ∀  (h : HP), K160  h → V G p l e (rmD 9 0) s m args below meth c (MQ below (QV G P) args s 0 0 (va_Aof G)) 3 160 [(22, o), (1, 0), (1, 0)] [] h 0) : ∀ (f : Nat) (l1 : Int) (h : HP), wX12_takeOver_128 o K160 f l1 h → V G p l e (rmD 9 0) s m args below meth c (MQ below (QV G P) args s 0 0 (va_Aof G)) 3 128 [(22, o), (0, l1), (1, 0)] [] h 0 := by
  intro f
  induction f with
  | zero =>
    intro l1 h hw
    exact hw.elim
  | succ f ih =>
    intro l1 h hw
    refine V.iload_n hc dX12_takeOver_128 rfl rfl ?_
    refine V.aload_n (t := 12) hc dX12_takeOver_129 rfl rfl ?_
    refine V.gR hc gR_X12_21 (i' := o) rfl dX12_takeOver_130 ?_
    refine V.iconst hc dX12_takeOver_133 ?_
    refine V.ald hc ak_49 (by omega) dX12_takeOver_134 ?_
    obtain ⟨g26, hw⟩ := hw
    obtain ⟨g27, hw⟩ := hw
    refine V.icmp_ge hc (tgt := 160) dX12_takeOver_135 (by decide) g26 g27 (fun c28 => ?_) (fun c28 => ?_)
    · replace hw := hw.1 c28
      refine V.drop (lo' := [(22, o), (1, 0), (1, 0)]) ⟨Or.inr rfl, Or.inl rfl, Or.inr rfl, trivial⟩ ?_
      exact hK160 _ hw
    · replace hw := hw.2 c28
      refine V.aload_n (t := 12) hc dX12_takeOver_138 rfl rfl ?_
      refine V.gR hc gR_X12_43 (i' := o) rfl dX12_takeOver_139 ?_
      refine V.sipush hc dX12_takeOver_142 (by decide) ?_
      refine V.iload_n hc dX12_takeOver_145 rfl rfl ?_
      refine V.iadd hc dX12_takeOver_146 ?_
      refine V.aload_n (t := 12) hc dX12_takeOver_147 rfl rfl ?_
      refine V.gR hc gR_X12_37 (i' := o) rfl dX12_takeOver_148 ?_
      refine V.iload_n hc dX12_takeOver_151 rfl rfl ?_
      obtain ⟨g29, hw⟩ := hw
      refine V.ald hc ak_54 g29 dX12_takeOver_152 ?_
      obtain ⟨g31, hw⟩ := hw
      refine V.ast hc ak_56 g31 dX12_takeOver_153 (fun h30 e => ?_)
      replace hw := hw h30 e
      clear e
      refine V.iinc hc dX12_takeOver_154 rfl rfl (lo' := [(22, o), (0, l1 + 1), (1, 0)]) rfl ?_
      refine V.goto hc (tgt := 128) dX12_takeOver_157 (by decide) ?_
      exact ih _ _ hw
theorem qX12_takeOver (G : GG) (l : Launch) (o : Int) (h : HP) (P : HP → Prop) (hw : wX12_takeOver o h P) : CnV l G yX12_takeOver cX12_takeOver 3 9 [(22, o)] h P := by
  refine CnV.of (lo := [(22, o), (1, 0), (1, 0)]) (by decide) rfl rfl rfl ?_
  intro p e s m args below meth c hc hr
  have hc : VC G p (rmD 9 0) s m args meth c RX12 cX12_takeOver 3 9 := hc
  refine V.aload_n (t := 12) hc dX12_takeOver_0 rfl rfl ?_
  refine V.gR hc gR_X12_21 (i' := o) rfl dX12_takeOver_1 ?_
  refine V.callSV hc (qX12_takeHalf G l _ _ _ _ hw) mo_X12_takeHalf ml_X12_228 (as := [(59, o)]) rfl rfl rfl rfl rfl ⟨Nat.zero_le _, Nat.zero_le _⟩ dX12_takeOver_4 (fun h1 hw => ?_)
  refine V.aload_n (t := 12) hc dX12_takeOver_7 rfl rfl ?_
  refine V.gR hc gR_X12_25 (i' := o) rfl dX12_takeOver_8 ?_
  refine V.callSV hc (qX12_takeHalf G l _ _ _ _ hw) mo_X12_takeHalf ml_X12_228 (as := [(60, o)]) rfl rfl rfl rfl rfl ⟨Nat.zero_le _, Nat.zero_le _⟩ dX12_takeOver_11 (fun h2 hw => ?_)
  refine V.aload_n (t := 12) hc dX12_takeOver_14 rfl rfl ?_
  refine V.gR hc gR_X12_28 (i' := o) rfl dX12_takeOver_15 ?_
  refine V.callSV hc (qX12_takeHalf G l _ _ _ _ hw) mo_X12_takeHalf ml_X12_228 (as := [(61, o)]) rfl rfl rfl rfl rfl ⟨Nat.zero_le _, Nat.zero_le _⟩ dX12_takeOver_18 (fun h3 hw => ?_)
  refine V.aload_n (t := 12) hc dX12_takeOver_21 rfl rfl ?_
  refine V.gR hc gR_X12_31 (i' := o) rfl dX12_takeOver_22 ?_
  refine V.callSV hc (qX12_takeHalf G l _ _ _ _ hw) mo_X12_takeHalf ml_X12_228 (as := [(62, o)]) rfl rfl rfl rfl rfl ⟨Nat.zero_le _, Nat.zero_le _⟩ dX12_takeOver_25 (fun h4 hw => ?_)
  refine V.aload_n (t := 12) hc dX12_takeOver_28 rfl rfl ?_
  refine V.gR hc gR_X12_34 (i' := o) rfl dX12_takeOver_29 ?_
  refine V.callSV hc (qX12_takeHalf G l _ _ _ _ hw) mo_X12_takeHalf ml_X12_228 (as := [(63, o)]) rfl rfl rfl rfl rfl ⟨Nat.zero_le _, Nat.zero_le _⟩ dX12_takeOver_32 (fun h5 hw => ?_)
  refine V.aload_n (t := 12) hc dX12_takeOver_35 rfl rfl ?_
  refine V.gR hc gR_X12_37 (i' := o) rfl dX12_takeOver_36 ?_
  refine V.callSV hc (qX12_takeHalf G l _ _ _ _ hw) mo_X12_takeHalf ml_X12_228 (as := [(64, o)]) rfl rfl rfl rfl rfl ⟨Nat.zero_le _, Nat.zero_le _⟩ dX12_takeOver_39 (fun h6 hw => ?_)
  refine V.aload_n (t := 12) hc dX12_takeOver_42 rfl rfl ?_
  refine V.gR hc gR_X12_40 (i' := o) rfl dX12_takeOver_43 ?_
  refine V.callSV hc (qX12_takeHalf G l _ _ _ _ hw) mo_X12_takeHalf ml_X12_228 (as := [(65, o)]) rfl rfl rfl rfl rfl ⟨Nat.zero_le _, Nat.zero_le _⟩ dX12_takeOver_46 (fun h7 hw => ?_)
  refine V.iconst hc dX12_takeOver_49 ?_
  refine V.istore_n hc dX12_takeOver_50 rfl rfl (lo' := [(22, o), (0, 0), (1, 0)]) rfl ?_
  obtain ⟨f12, hw⟩ := hw
  refine tX12_takeOver_51 hc hr ?_ f12 _ _ hw
  · intro h13 hw
    refine V.iconst hc dX12_takeOver_71 ?_
    refine V.istore_n hc dX12_takeOver_72 rfl rfl (lo' := [(22, o), (0, 0), (1, 0)]) rfl ?_
    obtain ⟨f24, hw⟩ := hw
    refine tX12_takeOver_73 hc hr ?_ f24 _ _ hw
    · intro h25 hw
      refine V.iconst hc dX12_takeOver_126 ?_
      refine V.istore_n hc dX12_takeOver_127 rfl rfl (lo' := [(22, o), (0, 0), (1, 0)]) rfl ?_
      obtain ⟨f32, hw⟩ := hw
      refine tX12_takeOver_128 hc hr ?_ f32 _ _ hw
      · intro h33 hw
        refine V.aload_n (t := 12) hc dX12_takeOver_160 rfl rfl ?_
        refine V.gR hc gR_X12_43 (i' := o) rfl dX12_takeOver_161 ?_
        refine V.sipush hc dX12_takeOver_164 (by decide) ?_
        refine V.iconst hc dX12_takeOver_167 ?_
        refine V.ast hc ak_56 (by omega) dX12_takeOver_168 (fun h34 e => ?_)
        replace hw := hw h34 e
        clear e
        refine V.aload_n (t := 12) hc dX12_takeOver_169 rfl rfl ?_
        refine V.iconst hc dX12_takeOver_170 ?_
        refine V.pI hc pI_X12_232 rfl dX12_takeOver_171 (fun h35 e => ?_)
        replace hw := hw h35 e
        clear e
        refine V.aload_n (t := 12) hc dX12_takeOver_174 rfl rfl ?_
        refine V.iconst hc dX12_takeOver_175 ?_
        refine V.pI hc pI_X12_235 rfl dX12_takeOver_176 (fun h36 e => ?_)
        replace hw := hw h36 e
        clear e
        refine V.aload_n (t := 12) hc dX12_takeOver_179 rfl rfl ?_
        refine V.iconst hc dX12_takeOver_180 ?_
        refine V.pZ hc pI_X12_238 rfl (by omega) dX12_takeOver_181 (fun h37 e => ?_)
        replace hw := hw h37 e
        clear e
        exact V.vret hc hr dX12_takeOver_184 hw
theorem tX12_link_66 {G : GG} {p : Program} {l : Launch} {e : Jvm.Env} {s : State} {m : MethodId} {args : Array Value} {below : List Frame} {meth : Method} {c : Code} {P : Int → HP → Prop} (hc : VC G p (rmD 14 0) s m args meth c RX12 cX12_link 2 14) (hr : meth.sig.returnType = some .int) {o : Int} {a1 : Int} {K87 : HP → Prop} (hK87 : ∀  (h : HP), K87  h → V G p l e (rmD 14 0) s m args below meth c (MQ below (QI G P) args s 0 0 (va_Aof G)) 2 87 [(22, o), (1, 0)] [] h 0) : ∀ (f : Nat)  (h : HP), wX12_link_66 o a1 K87 f  h → V G p l e (rmD 14 0) s m args below meth c (MQ below (QI G P) args s 0 0 (va_Aof G)) 2 66 [(22, o), (1, 0)] [] h 0 := by
  intro f
  induction f with
  | zero =>
    intro h hw
    exact hw.elim
  | succ f ih =>
    intro h hw
    refine V.aload_n (t := 12) hc dX12_link_66 rfl rfl ?_
    refine V.gI hc gI_X12_160 rfl dX12_link_67 ?_
    obtain ⟨g17, hw⟩ := hw
    refine V.if_ne hc (tgt := 87) dX12_link_70 (by decide) g17 (fun c18 => ?_) (fun c18 => ?_)
    · replace hw := hw.1 c18
      exact hK87 _ hw
    · replace hw := hw.2 c18
      refine V.aload_n (t := 12) hc dX12_link_73 rfl rfl ?_
      refine V.gI hc gI_X12_137 rfl dX12_link_74 ?_
      obtain ⟨g19, hw⟩ := hw
      refine V.if_eq hc (tgt := 87) dX12_link_77 (by decide) g19 (fun c20 => ?_) (fun c20 => ?_)
      · replace hw := hw.1 c20
        exact hK87 _ hw
      · replace hw := hw.2 c20
        refine V.aload_n (t := 12) hc dX12_link_80 rfl rfl ?_
        refine V.callVV hc (qX12_readClause G l _ _ _ hw) mo_X12_readClause ml_X12_222 (by rfl) rfl rfl (as := []) rfl rfl rfl rfl rfl ⟨Nat.zero_le _, Nat.zero_le _⟩ dX12_link_81 (fun h21 hw => ?_)
        refine V.goto hc (tgt := 66) dX12_link_84 (by decide) ?_
        exact ih _ hw
theorem qX12_link (G : GG) (l : Launch) (o : Int) (a1 : Int) (h : HP) (P : Int → HP → Prop) (hw : wX12_link o a1 h P) : CnI l G yX12_link cX12_link 2 (some .int) 14 [(22, o), (0, a1)] h P := by
  refine CnI.of (lo := [(22, o), (0, a1)]) (by decide) rfl rfl rfl ?_
  intro p e s m args below meth c hc hr
  have hc : VC G p (rmD 14 0) s m args meth c RX12 cX12_link 2 14 := hc
  refine V.aload_n (t := 12) hc dX12_link_0 rfl rfl ?_
  refine V.iconst hc dX12_link_1 ?_
  refine V.pI hc pI_X12_118 rfl dX12_link_2 (fun h1 e => ?_)
  replace hw := hw h1 e
  clear e
  refine V.iload_n hc dX12_link_5 rfl rfl ?_
  obtain ⟨g2, hw⟩ := hw
  refine V.if_lt hc (tgt := 17) dX12_link_6 (by decide) g2 (fun c3 => ?_) (fun c3 => ?_)
  · replace hw := hw.1 c3
    refine V.aload_n (t := 12) hc dX12_link_17 rfl rfl ?_
    refine V.iconst hc dX12_link_18 ?_
    refine V.callVI hc (qX12_fail G l _ _ _ _ hw) mo_X12_fail ml_X12_219 (by rfl) rfl rfl (as := [(0, 1)]) rfl rfl rfl rfl rfl ⟨Nat.zero_le _, Nat.zero_le _⟩ dX12_link_19 (fun x5 h4 hw => ?_)
    exact V.iret hc hr dX12_link_22 hw
  · replace hw := hw.2 c3
    refine V.iload_n hc dX12_link_9 rfl rfl ?_
    refine V.aload_n (t := 12) hc dX12_link_10 rfl rfl ?_
    refine V.gI hc gI_X12_121 rfl dX12_link_11 ?_
    obtain ⟨g6, hw⟩ := hw
    obtain ⟨g7, hw⟩ := hw
    refine V.icmp_le hc (tgt := 23) dX12_link_14 (by decide) g6 g7 (fun c8 => ?_) (fun c8 => ?_)
    · replace hw := hw.1 c8
      refine V.aload_n (t := 12) hc dX12_link_23 rfl rfl ?_
      refine V.iconst hc dX12_link_24 ?_
      refine V.pI hc pI_X12_121 rfl dX12_link_25 (fun h9 e => ?_)
      replace hw := hw h9 e
      clear e
      refine V.aload_n (t := 12) hc dX12_link_28 rfl rfl ?_
      refine V.iload_n hc dX12_link_29 rfl rfl ?_
      refine V.pI hc pI_X12_124 rfl dX12_link_30 (fun h10 e => ?_)
      replace hw := hw h10 e
      clear e
      refine V.aload_n (t := 12) hc dX12_link_33 rfl rfl ?_
      refine V.iconst hc dX12_link_34 ?_
      refine V.pI hc pI_X12_127 rfl dX12_link_35 (fun h11 e => ?_)
      replace hw := hw h11 e
      clear e
      refine V.aload_n (t := 12) hc dX12_link_38 rfl rfl ?_
      refine V.iconst hc dX12_link_39 ?_
      refine V.pI hc pI_X12_160 rfl dX12_link_40 (fun h12 e => ?_)
      replace hw := hw h12 e
      clear e
      refine V.aload_n (t := 12) hc dX12_link_43 rfl rfl ?_
      refine V.iconst hc dX12_link_44 ?_
      refine V.pI hc pI_X12_52 rfl dX12_link_45 (fun h13 e => ?_)
      replace hw := hw h13 e
      clear e
      refine V.aload_n (t := 12) hc dX12_link_48 rfl rfl ?_
      refine V.gR hc gR_X12_21 (i' := o) rfl dX12_link_49 ?_
      refine V.iconst hc dX12_link_52 ?_
      refine V.iconst hc dX12_link_53 ?_
      refine V.ast hc ak_49 (by omega) dX12_link_54 (fun h14 e => ?_)
      replace hw := hw h14 e
      clear e
      refine V.aload_n (t := 12) hc dX12_link_55 rfl rfl ?_
      refine V.gR hc gR_X12_21 (i' := o) rfl dX12_link_56 ?_
      refine V.iconst hc dX12_link_59 ?_
      refine V.iconst hc dX12_link_60 ?_
      refine V.ast hc ak_49 (by omega) dX12_link_61 (fun h15 e => ?_)
      replace hw := hw h15 e
      clear e
      refine V.aload_n (t := 12) hc dX12_link_62 rfl rfl ?_
      refine V.callVV hc (qX12_stepOn G l _ _ _ hw) mo_X12_stepOn ml_X12_185 (by rfl) rfl rfl (as := []) rfl rfl rfl rfl rfl ⟨Nat.zero_le _, Nat.zero_le _⟩ dX12_link_63 (fun h16 hw => ?_)
      obtain ⟨f22, hw⟩ := hw
      refine V.drop (lo' := [(22, o), (1, 0)]) ⟨Or.inr rfl, Or.inl rfl, trivial⟩ ?_
      refine tX12_link_66 hc hr ?_ f22 _ hw
      · intro h23 hw
        refine V.aload_n (t := 12) hc dX12_link_87 rfl rfl ?_
        refine V.gI hc gI_X12_160 rfl dX12_link_88 ?_
        obtain ⟨g24, hw⟩ := hw
        refine V.if_eq hc (tgt := 117) dX12_link_91 (by decide) g24 (fun c25 => ?_) (fun c25 => ?_)
        · replace hw := hw.1 c25
          refine V.aload_n (t := 12) hc dX12_link_117 rfl rfl ?_
          refine V.callVV hc (qX12_takeOver G l _ _ _ hw) mo_X12_takeOver ml_X12_225 (by rfl) rfl rfl (as := []) rfl rfl rfl rfl rfl ⟨Nat.zero_le _, Nat.zero_le _⟩ dX12_link_118 (fun h26 hw => ?_)
          refine V.iconst hc dX12_link_121 ?_
          exact V.iret hc hr dX12_link_122 hw
        · replace hw := hw.2 c25
          refine V.aload_n (t := 12) hc dX12_link_94 rfl rfl ?_
          refine V.aload_n (t := 12) hc dX12_link_95 rfl rfl ?_
          refine V.gI hc gI_X12_163 rfl dX12_link_96 ?_
          refine V.pI hc pI_X12_52 rfl dX12_link_99 (fun h27 e => ?_)
          replace hw := hw h27 e
          clear e
          refine V.aload_n (t := 12) hc dX12_link_102 rfl rfl ?_
          refine V.gR hc gR_X12_46 (i' := o) rfl dX12_link_103 ?_
          refine V.iconst hc dX12_link_106 ?_
          refine V.dup2 hc dX12_link_107 (by simp) (by simp) ?_
          refine V.ald hc ak_57 (by omega) dX12_link_108 ?_
          refine V.iconst hc dX12_link_109 ?_
          refine V.iadd hc dX12_link_110 ?_
          refine V.ast hc ak_57 (by omega) dX12_link_111 (fun h28 e => ?_)
          replace hw := hw h28 e
          clear e
          refine V.aload_n (t := 12) hc dX12_link_112 rfl rfl ?_
          refine V.gI hc gI_X12_160 rfl dX12_link_113 ?_
          exact V.iret hc hr dX12_link_116 hw
    · replace hw := hw.2 c8
      refine V.aload_n (t := 12) hc dX12_link_17 rfl rfl ?_
      refine V.iconst hc dX12_link_18 ?_
      refine V.callVI hc (qX12_fail G l _ _ _ _ hw) mo_X12_fail ml_X12_219 (by rfl) rfl rfl (as := [(0, 1)]) rfl rfl rfl rfl rfl ⟨Nat.zero_le _, Nat.zero_le _⟩ dX12_link_19 (fun x30 h29 hw => ?_)
      exact V.iret hc hr dX12_link_22 hw
theorem qX12_fault (G : GG) (l : Launch) (o : Int) (h : HP) (P : Int → HP → Prop) (hw : wX12_fault o h P) : CnI l G yX12_fault cX12_fault 1 (some .int) 8 [(22, o)] h P := by
  refine CnI.of (lo := [(22, o)]) (by decide) rfl rfl rfl ?_
  intro p e s m args below meth c hc hr
  have hc : VC G p (rmD 8 0) s m args meth c RX12 cX12_fault 1 8 := hc
  refine V.aload_n (t := 12) hc dX12_fault_0 rfl rfl ?_
  refine V.iconst hc dX12_fault_1 ?_
  refine V.pI hc pI_X12_118 rfl dX12_fault_2 (fun h1 e => ?_)
  replace hw := hw h1 e
  clear e
  refine V.aload_n (t := 12) hc dX12_fault_5 rfl rfl ?_
  refine V.gI hc gI_X12_52 rfl dX12_fault_6 ?_
  exact V.iret hc hr dX12_fault_9 hw
theorem qX12_up (G : GG) (l : Launch) (a0 : Int) (a1 : Int) (h : HP) (P : Int → HP → Prop) (hw : wX12_up a0 a1 h P) : CnI l G yX12_up cX12_up 2 (some .int) 8 [(0, a0), (0, a1)] h P := by
  refine CnI.of (lo := [(0, a0), (0, a1)]) (by decide) rfl rfl rfl ?_
  intro p e s m args below meth c hc hr
  have hc : VC G p (rmD 8 0) s m args meth c RX12 cX12_up 2 8 := hc
  refine V.iload_n hc dX12_up_0 rfl rfl ?_
  refine V.iload_n hc dX12_up_1 rfl rfl ?_
  refine V.iadd hc dX12_up_2 ?_
  refine V.iconst hc dX12_up_3 ?_
  refine V.isub hc dX12_up_4 ?_
  refine V.iload_n hc dX12_up_5 rfl rfl ?_
  obtain ⟨g1, hw⟩ := hw
  obtain ⟨g2, hw⟩ := hw
  refine V.idiv hc g1 g2 dX12_up_6 ?_
  exact V.iret hc hr dX12_up_7 hw
theorem qX12_reach (G : GG) (l : Launch) (a0 : Int) (a1 : Int) (a2 : Int) (a3 : Int) (a4 : Int) (a5 : Int) (h : HP) (P : Int → HP → Prop) (hw : wX12_reach a0 a1 a2 a3 a4 a5 h P) : CnI l G yX12_reach cX12_reach 7 (some .int) 9 [(0, a0), (0, a1), (0, a2), (0, a3), (0, a4), (0, a5)] h P := by
  refine CnI.of (lo := [(0, a0), (0, a1), (0, a2), (0, a3), (0, a4), (0, a5), (1, 0)]) (by decide) rfl rfl rfl ?_
  intro p e s m args below meth c hc hr
  have hc : VC G p (rmD 9 0) s m args meth c RX12 cX12_reach 7 9 := hc
  refine V.iload hc dX12_reach_0 rfl ?_
  refine V.iload hc dX12_reach_2 rfl ?_
  obtain ⟨g1, hw⟩ := hw
  obtain ⟨g2, hw⟩ := hw
  refine V.icmp_gt hc (tgt := 9) dX12_reach_4 (by decide) g1 g2 (fun c3 => ?_) (fun c3 => ?_)
  · replace hw := hw.1 c3
    refine V.bipush hc dX12_reach_9 (by decide) ?_
    refine V.iload hc dX12_reach_11 rfl ?_
    refine V.iload hc dX12_reach_13 rfl ?_
    refine V.isub hc dX12_reach_15 ?_
    refine V.imul hc dX12_reach_16 ?_
    refine V.istore hc dX12_reach_17 rfl (lo' := [(0, a0), (0, a1), (0, a2), (0, a3), (0, a4), (0, a5), (0, 100 * (a5 - a4))]) rfl ?_
    refine V.iload_n hc dX12_reach_19 rfl rfl ?_
    refine V.iload_n hc dX12_reach_20 rfl rfl ?_
    refine V.imul hc dX12_reach_21 ?_
    refine V.iload hc dX12_reach_22 rfl ?_
    obtain ⟨g4, hw⟩ := hw
    obtain ⟨g5, hw⟩ := hw
    refine V.icmp_lt hc (tgt := 38) dX12_reach_24 (by decide) g4 g5 (fun c6 => ?_) (fun c6 => ?_)
    · replace hw := hw.1 c6
      refine V.iload_n hc dX12_reach_38 rfl rfl ?_
      refine V.iload_n hc dX12_reach_39 rfl rfl ?_
      refine V.iadd hc dX12_reach_40 ?_
      refine V.iload hc dX12_reach_41 rfl ?_
      refine V.iload_n hc dX12_reach_43 rfl rfl ?_
      refine V.iload_n hc dX12_reach_44 rfl rfl ?_
      refine V.imul hc dX12_reach_45 ?_
      refine V.isub hc dX12_reach_46 ?_
      refine V.iload_n hc dX12_reach_47 rfl rfl ?_
      refine V.callSI hc (qX12_up G l _ _ _ _ hw) mo_X12_up ml_X12_242 (as := [(0, (100 * (a5 - a4)) - (a0 * a1)), (0, a2)]) rfl rfl rfl rfl rfl ⟨Nat.zero_le _, Nat.zero_le _⟩ dX12_reach_48 (fun x8 h7 hw => ?_)
      refine V.iadd hc dX12_reach_51 ?_
      exact V.iret hc hr dX12_reach_52 hw
    · replace hw := hw.2 c6
      refine V.iload_n hc dX12_reach_27 rfl rfl ?_
      refine V.iload hc dX12_reach_28 rfl ?_
      refine V.iload_n hc dX12_reach_30 rfl rfl ?_
      refine V.callSI hc (qX12_up G l _ _ _ _ hw) mo_X12_up ml_X12_242 (as := [(0, 100 * (a5 - a4)), (0, a0)]) rfl rfl rfl rfl rfl ⟨Nat.zero_le _, Nat.zero_le _⟩ dX12_reach_31 (fun x10 h9 hw => ?_)
      refine V.iadd hc dX12_reach_34 ?_
      refine V.goto hc (tgt := 52) dX12_reach_35 (by decide) ?_
      exact V.iret hc hr dX12_reach_52 hw
  · replace hw := hw.2 c3
    refine V.iload_n hc dX12_reach_7 rfl rfl ?_
    exact V.iret hc hr dX12_reach_8 hw
theorem qX12_curveAt (G : GG) (l : Launch) (a0 : Int) (a1 : Int) (h : HP) (P : Int → HP → Prop) (hw : wX12_curveAt a0 a1 h P) : CnI l G yX12_curveAt cX12_curveAt 2 (some .int) 8 [(0, a0), (0, a1)] h P := by
  refine CnI.of (lo := [(0, a0), (0, a1)]) (by decide) rfl rfl rfl ?_
  intro p e s m args below meth c hc hr
  have hc : VC G p (rmD 8 0) s m args meth c RX12 cX12_curveAt 2 8 := hc
  refine V.sipush hc dX12_curveAt_0 (by decide) ?_
  refine V.iload_n hc dX12_curveAt_3 rfl rfl ?_
  refine V.imul hc dX12_curveAt_4 ?_
  refine V.iconst hc dX12_curveAt_5 ?_
  refine V.iload_n hc dX12_curveAt_6 rfl rfl ?_
  refine V.imul hc dX12_curveAt_7 ?_
  refine V.iadd hc dX12_curveAt_8 ?_
  exact V.iret hc hr dX12_curveAt_9 hw
theorem qX12_laidAt (G : GG) (l : Launch) (a0 : Int) (a1 : Int) (h : HP) (P : Int → HP → Prop) (hw : wX12_laidAt a0 a1 h P) : CnI l G yX12_laidAt cX12_laidAt 2 (some .int) 8 [(0, a0), (0, a1)] h P := by
  refine CnI.of (lo := [(0, a0), (0, a1)]) (by decide) rfl rfl rfl ?_
  intro p e s m args below meth c hc hr
  have hc : VC G p (rmD 8 0) s m args meth c RX12 cX12_laidAt 2 8 := hc
  refine V.sipush hc dX12_laidAt_0 (by decide) ?_
  refine V.iload_n hc dX12_laidAt_3 rfl rfl ?_
  refine V.imul hc dX12_laidAt_4 ?_
  refine V.bipush hc dX12_laidAt_5 (by decide) ?_
  refine V.iadd hc dX12_laidAt_7 ?_
  refine V.bipush hc dX12_laidAt_8 (by decide) ?_
  refine V.iload_n hc dX12_laidAt_10 rfl rfl ?_
  refine V.imul hc dX12_laidAt_11 ?_
  refine V.iadd hc dX12_laidAt_12 ?_
  exact V.iret hc hr dX12_laidAt_13 hw
theorem qX12_hasCurve (G : GG) (l : Launch) (o : Int) (a1 : Int) (a2 : Int) (h : HP) (P : Int → HP → Prop) (hw : wX12_hasCurve o a1 a2 h P) : CnI l G yX12_hasCurve cX12_hasCurve 3 (some .boolean) 9 [(22, o), (0, a1), (0, a2)] h P := by
  refine CnI.of (lo := [(22, o), (0, a1), (0, a2)]) (by decide) rfl rfl rfl ?_
  intro p e s m args below meth c hc hr
  have hc : VC G p (rmD 9 0) s m args meth c RX12 cX12_hasCurve 3 9 := hc
  refine V.aload_n (t := 12) hc dX12_hasCurve_0 rfl rfl ?_
  refine V.gR hc gR_X12_43 (i' := o) rfl dX12_hasCurve_1 ?_
  refine V.iload_n hc dX12_hasCurve_4 rfl rfl ?_
  refine V.iload_n hc dX12_hasCurve_5 rfl rfl ?_
  refine V.callSI hc (qX12_curveAt G l _ _ _ _ hw) mo_X12_curveAt ml_X12_245 (as := [(0, a1), (0, a2)]) rfl rfl rfl rfl rfl ⟨Nat.zero_le _, Nat.zero_le _⟩ dX12_hasCurve_6 (fun x2 h1 hw => ?_)
  obtain ⟨g3, hw⟩ := hw
  refine V.ald hc ak_56 g3 dX12_hasCurve_9 ?_
  refine V.iconst hc dX12_hasCurve_10 ?_
  obtain ⟨q6, hw⟩ := hw
  have kJ8 : ∀ t5 : Int, ((¬ h1 56 o x2 = 1 → t5 = 0) ∧ (h1 56 o x2 = 1 → t5 = 1)) → V G p l e (rmD 9 0) s m args below meth c (MQ below (QI G P) args s 0 0 (va_Aof G)) 3 19 [(1, 0), (1, 0), (1, 0)] [(0, t5)] h1 0 := by
    intro t5 he
    replace hw := hw t5 he
    clear he
    obtain ⟨g7, hw⟩ := hw
    exact V.zret hc hr dX12_hasCurve_19 g7 hw
  have g4 := q6
  refine V.icmp_ne hc (tgt := 18) dX12_hasCurve_11 (by decide) g4 (by omega) (fun c9 => ?_) (fun c9 => ?_)
  · refine V.iconst hc dX12_hasCurve_18 ?_
    refine V.drop (lo' := [(1, 0), (1, 0), (1, 0)]) ⟨Or.inl rfl, Or.inl rfl, Or.inl rfl, trivial⟩ ?_
    exact kJ8 _ ⟨fun _ => rfl, (fun q => absurd q c9)⟩
  · refine V.iconst hc dX12_hasCurve_14 ?_
    refine V.goto hc (tgt := 19) dX12_hasCurve_15 (by decide) ?_
    refine V.drop (lo' := [(1, 0), (1, 0), (1, 0)]) ⟨Or.inl rfl, Or.inl rfl, Or.inl rfl, trivial⟩ ?_
    exact kJ8 _ ⟨(fun q => absurd c9 q), fun _ => rfl⟩
theorem tX12_reachAll_20 {G : GG} {p : Program} {l : Launch} {e : Jvm.Env} {s : State} {m : MethodId} {args : Array Value} {below : List Frame} {meth : Method} {c : Code} {P : Int → HP → Prop} (hc : VC G p (rmD 10 0) s m args meth c RX12 cX12_reachAll 9 10) (hr : meth.sig.returnType = some .int) {o : Int} {a1 : Int} {a2 : Int} {a3 : Int} {a4 : Int} {l6 : Int} {l7 : Int} {K97 : Int → HP → Prop} (hK97 : ∀ (x5 : Int) (h : HP), K97 x5 h → V G p l e (rmD 10 0) s m args below meth c (MQ below (QI G P) args s 0 0 (va_Aof G)) 9 97 [(1, 0), (1, 0), (1, 0), (1, 0), (1, 0), (0, x5), (1, 0), (1, 0), (1, 0)] [] h 0) : ∀ (f : Nat) (l5 : Int) (l8 : Int) (h : HP), wX12_reachAll_20 o a1 a2 a3 a4 l6 l7 K97 f l5 l8 h → V G p l e (rmD 10 0) s m args below meth c (MQ below (QI G P) args s 0 0 (va_Aof G)) 9 20 [(22, o), (1, 0), (1, 0), (0, a3), (0, a4), (0, l5), (0, l6), (0, l7), (0, l8)] [] h 0 := by
  intro f
  induction f with
  | zero =>
    intro l5 l8 h hw
    exact hw.elim
  | succ f ih =>
    intro l5 l8 h hw
    refine V.iload hc dX12_reachAll_20 rfl ?_
    refine V.aload_n (t := 12) hc dX12_reachAll_22 rfl rfl ?_
    refine V.gR hc gR_X12_43 (i' := o) rfl dX12_reachAll_23 ?_
    refine V.iload hc dX12_reachAll_26 rfl ?_
    obtain ⟨g5, hw⟩ := hw
    refine V.ald hc ak_56 g5 dX12_reachAll_28 ?_
    obtain ⟨g6, hw⟩ := hw
    obtain ⟨g7, hw⟩ := hw
    refine V.icmp_ge hc (tgt := 97) dX12_reachAll_29 (by decide) g6 g7 (fun c8 => ?_) (fun c8 => ?_)
    · replace hw := hw.1 c8
      refine V.drop (lo' := [(1, 0), (1, 0), (1, 0), (1, 0), (1, 0), (0, l5), (1, 0), (1, 0), (1, 0)]) ⟨Or.inl rfl, Or.inr rfl, Or.inr rfl, Or.inl rfl, Or.inl rfl, Or.inr rfl, Or.inl rfl, Or.inl rfl, Or.inl rfl, trivial⟩ ?_
      exact hK97 _ _ hw
    · replace hw := hw.2 c8
      refine V.iload hc dX12_reachAll_32 rfl ?_
      refine V.iload hc dX12_reachAll_34 rfl ?_
      refine V.aload_n (t := 12) hc dX12_reachAll_36 rfl rfl ?_
      refine V.gR hc gR_X12_43 (i' := o) rfl dX12_reachAll_37 ?_
      refine V.iload hc dX12_reachAll_40 rfl ?_
      refine V.iconst hc dX12_reachAll_42 ?_
      refine V.iadd hc dX12_reachAll_43 ?_
      obtain ⟨g9, hw⟩ := hw
      refine V.ald hc ak_56 g9 dX12_reachAll_44 ?_
      refine V.aload_n (t := 12) hc dX12_reachAll_45 rfl rfl ?_
      refine V.gR hc gR_X12_43 (i' := o) rfl dX12_reachAll_46 ?_
      refine V.iload hc dX12_reachAll_49 rfl ?_
      refine V.iconst hc dX12_reachAll_51 ?_
      refine V.iadd hc dX12_reachAll_52 ?_
      obtain ⟨g10, hw⟩ := hw
      refine V.ald hc ak_56 g10 dX12_reachAll_53 ?_
      refine V.aload_n (t := 12) hc dX12_reachAll_54 rfl rfl ?_
      refine V.gR hc gR_X12_43 (i' := o) rfl dX12_reachAll_55 ?_
      refine V.iload hc dX12_reachAll_58 rfl ?_
      refine V.iconst hc dX12_reachAll_60 ?_
      refine V.iadd hc dX12_reachAll_61 ?_
      refine V.iconst hc dX12_reachAll_62 ?_
      refine V.iload hc dX12_reachAll_63 rfl ?_
      refine V.imul hc dX12_reachAll_65 ?_
      refine V.iadd hc dX12_reachAll_66 ?_
      obtain ⟨g11, hw⟩ := hw
      refine V.ald hc ak_56 g11 dX12_reachAll_67 ?_
      refine V.aload_n (t := 12) hc dX12_reachAll_68 rfl rfl ?_
      refine V.gR hc gR_X12_43 (i' := o) rfl dX12_reachAll_69 ?_
      refine V.iload hc dX12_reachAll_72 rfl ?_
      refine V.iconst hc dX12_reachAll_74 ?_
      refine V.iadd hc dX12_reachAll_75 ?_
      refine V.iconst hc dX12_reachAll_76 ?_
      refine V.iload hc dX12_reachAll_77 rfl ?_
      refine V.imul hc dX12_reachAll_79 ?_
      refine V.iadd hc dX12_reachAll_80 ?_
      obtain ⟨g12, hw⟩ := hw
      refine V.ald hc ak_56 g12 dX12_reachAll_81 ?_
      refine V.iload_n hc dX12_reachAll_82 rfl rfl ?_
      refine V.callSI hc (qX12_reach G l _ _ _ _ _ _ _ _ hw) mo_X12_reach ml_X12_251 (as := [(0, a4), (0, h 56 o (l6 + 2)), (0, h 56 o (l6 + 3)), (0, h 56 o ((l7 + 1) + (2 * l8))), (0, h 56 o ((l7 + 2) + (2 * l8))), (0, a3)]) rfl rfl rfl rfl rfl ⟨Nat.zero_le _, Nat.zero_le _⟩ dX12_reachAll_83 (fun x14 h13 hw => ?_)
      obtain ⟨g15, hw⟩ := hw
      obtain ⟨g16, hw⟩ := hw
      refine V.mmax hc ml_X12_255 rfl rfl g15 g16 dX12_reachAll_86 ?_
      refine V.istore hc dX12_reachAll_89 rfl (lo' := [(22, o), (1, 0), (1, 0), (0, a3), (0, a4), (0, max l5 x14), (0, l6), (0, l7), (0, l8)]) rfl ?_
      refine V.iinc hc dX12_reachAll_91 rfl rfl (lo' := [(22, o), (1, 0), (1, 0), (0, a3), (0, a4), (0, max l5 x14), (0, l6), (0, l7), (0, l8 + 1)]) rfl ?_
      refine V.goto hc (tgt := 20) dX12_reachAll_94 (by decide) ?_
      exact ih _ _ _ hw
theorem qX12_reachAll (G : GG) (l : Launch) (o : Int) (a1 : Int) (a2 : Int) (a3 : Int) (a4 : Int) (h : HP) (P : Int → HP → Prop) (hw : wX12_reachAll o a1 a2 a3 a4 h P) : CnI l G yX12_reachAll cX12_reachAll 9 (some .int) 10 [(22, o), (0, a1), (0, a2), (0, a3), (0, a4)] h P := by
  refine CnI.of (lo := [(22, o), (0, a1), (0, a2), (0, a3), (0, a4), (1, 0), (1, 0), (1, 0), (1, 0)]) (by decide) rfl rfl rfl ?_
  intro p e s m args below meth c hc hr
  have hc : VC G p (rmD 10 0) s m args meth c RX12 cX12_reachAll 9 10 := hc
  refine V.iconst hc dX12_reachAll_0 ?_
  refine V.istore hc dX12_reachAll_1 rfl (lo' := [(22, o), (0, a1), (0, a2), (0, a3), (0, a4), (0, 0), (1, 0), (1, 0), (1, 0)]) rfl ?_
  refine V.iload_n hc dX12_reachAll_3 rfl rfl ?_
  refine V.iload_n hc dX12_reachAll_4 rfl rfl ?_
  refine V.callSI hc (qX12_curveAt G l _ _ _ _ hw) mo_X12_curveAt ml_X12_245 (as := [(0, a1), (0, a2)]) rfl rfl rfl rfl rfl ⟨Nat.zero_le _, Nat.zero_le _⟩ dX12_reachAll_5 (fun x2 h1 hw => ?_)
  refine V.istore hc dX12_reachAll_8 rfl (lo' := [(22, o), (0, a1), (0, a2), (0, a3), (0, a4), (0, 0), (0, x2), (1, 0), (1, 0)]) rfl ?_
  refine V.iload_n hc dX12_reachAll_10 rfl rfl ?_
  refine V.iload_n hc dX12_reachAll_11 rfl rfl ?_
  refine V.callSI hc (qX12_laidAt G l _ _ _ _ hw) mo_X12_laidAt ml_X12_248 (as := [(0, a1), (0, a2)]) rfl rfl rfl rfl rfl ⟨Nat.zero_le _, Nat.zero_le _⟩ dX12_reachAll_12 (fun x4 h3 hw => ?_)
  refine V.istore hc dX12_reachAll_15 rfl (lo' := [(22, o), (0, a1), (0, a2), (0, a3), (0, a4), (0, 0), (0, x2), (0, x4), (1, 0)]) rfl ?_
  refine V.iconst hc dX12_reachAll_17 ?_
  refine V.istore hc dX12_reachAll_18 rfl (lo' := [(22, o), (0, a1), (0, a2), (0, a3), (0, a4), (0, 0), (0, x2), (0, x4), (0, 0)]) rfl ?_
  obtain ⟨f17, hw⟩ := hw
  refine V.drop (lo' := [(22, o), (1, 0), (1, 0), (0, a3), (0, a4), (0, 0), (0, x2), (0, x4), (0, 0)]) ⟨Or.inr rfl, Or.inl rfl, Or.inl rfl, Or.inr rfl, Or.inr rfl, Or.inr rfl, Or.inr rfl, Or.inr rfl, Or.inr rfl, trivial⟩ ?_
  refine tX12_reachAll_20 hc hr ?_ f17 _ _ _ hw
  · intro l18 h19 hw
    refine V.iload hc dX12_reachAll_97 rfl ?_
    exact V.iret hc hr dX12_reachAll_99 hw
theorem qX12_reachBy (G : GG) (l : Launch) (o : Int) (a1 : Int) (a2 : Int) (a3 : Int) (h : HP) (P : Int → HP → Prop) (hw : wX12_reachBy o a1 a2 a3 h P) : CnI l G yX12_reachBy cX12_reachBy 4 (some .int) 11 [(22, o), (0, a1), (0, a2), (0, a3)] h P := by
  refine CnI.of (lo := [(22, o), (0, a1), (0, a2), (0, a3)]) (by decide) rfl rfl rfl ?_
  intro p e s m args below meth c hc hr
  have hc : VC G p (rmD 11 0) s m args meth c RX12 cX12_reachBy 4 11 := hc
  refine V.aload_n (t := 12) hc dX12_reachBy_0 rfl rfl ?_
  refine V.iload_n hc dX12_reachBy_1 rfl rfl ?_
  refine V.iload_n hc dX12_reachBy_2 rfl rfl ?_
  refine V.iload_n hc dX12_reachBy_3 rfl rfl ?_
  refine V.aload_n (t := 12) hc dX12_reachBy_4 rfl rfl ?_
  refine V.gR hc gR_X12_43 (i' := o) rfl dX12_reachBy_5 ?_
  refine V.iload_n hc dX12_reachBy_8 rfl rfl ?_
  refine V.iload_n hc dX12_reachBy_9 rfl rfl ?_
  refine V.callSI hc (qX12_curveAt G l _ _ _ _ hw) mo_X12_curveAt ml_X12_245 (as := [(0, a1), (0, a2)]) rfl rfl rfl rfl rfl ⟨Nat.zero_le _, Nat.zero_le _⟩ dX12_reachBy_10 (fun x2 h1 hw => ?_)
  refine V.iconst hc dX12_reachBy_13 ?_
  refine V.iadd hc dX12_reachBy_14 ?_
  obtain ⟨g3, hw⟩ := hw
  refine V.ald hc ak_56 g3 dX12_reachBy_15 ?_
  refine V.callVI hc (qX12_reachAll G l _ _ _ _ _ _ _ hw) mo_X12_reachAll ml_X12_258 (by rfl) rfl rfl (as := [(0, a1), (0, a2), (0, a3), (0, h1 56 o (x2 + 1))]) rfl rfl rfl rfl rfl ⟨Nat.zero_le _, Nat.zero_le _⟩ dX12_reachBy_16 (fun x5 h4 hw => ?_)
  exact V.iret hc hr dX12_reachBy_19 hw
theorem tX12_lay_243 {G : GG} {p : Program} {l : Launch} {e : Jvm.Env} {s : State} {m : MethodId} {args : Array Value} {below : List Frame} {meth : Method} {c : Code} {P : HP → Prop} (hc : VC G p (rmD 9 0) s m args meth c RX12 cX12_lay 13 9) (hr : meth.sig.returnType = none) {o : Int} {a1 : Int} {a2 : Int} {a3 : Int} {l4 : Int} {l5 : Int} {l6 : Int} {l7 : Int} {l8 : Int} {l9 : Int} {h : HP} {K47 : Int → Int → Int → HP → Prop} (hK47 : ∀ (x7 : Int) (x8 : Int) (x9 : Int) (h : HP), K47 x7 x8 x9 h → V G p l e (rmD 9 0) s m args below meth c (MQ below (QV G P) args s 0 0 (va_Aof G)) 13 47 [(22, o), (1, 0), (1, 0), (0, a3), (0, l4), (0, l5), (0, l6), (0, x7), (0, x8), (0, x9), (1, 0), (1, 0), (1, 0)] [] h 0) (hw : wX12_lay_243 o a1 a2 a3 l4 l5 l6 l7 l8 l9 K47 h) : V G p l e (rmD 9 0) s m args below meth c (MQ below (QV G P) args s 0 0 (va_Aof G)) 13 243 [(22, o), (1, 0), (1, 0), (0, a3), (0, l4), (0, l5), (0, l6), (0, l7), (0, l8), (0, l9), (1, 0), (1, 0), (1, 0)] [] h 0 := by
  refine V.iinc hc dX12_lay_243 rfl rfl (lo' := [(22, o), (1, 0), (1, 0), (0, a3), (0, l4), (0, l5), (0, l6), (0, l7), (0, l8), (0, l9 + 1), (1, 0), (1, 0), (1, 0)]) rfl ?_
  refine V.goto hc (tgt := 47) dX12_lay_246 (by decide) ?_
  exact hK47 _ _ _ _ hw
theorem tX12_lay_47 {G : GG} {p : Program} {l : Launch} {e : Jvm.Env} {s : State} {m : MethodId} {args : Array Value} {below : List Frame} {meth : Method} {c : Code} {P : HP → Prop} (hc : VC G p (rmD 9 0) s m args meth c RX12 cX12_lay 13 9) (hr : meth.sig.returnType = none) {o : Int} {a1 : Int} {a2 : Int} {a3 : Int} {l4 : Int} {l5 : Int} {l6 : Int} {K249 : Int → Int → HP → Prop} (hK249 : ∀ (x7 : Int) (x8 : Int) (h : HP), K249 x7 x8 h → V G p l e (rmD 9 0) s m args below meth c (MQ below (QV G P) args s 0 0 (va_Aof G)) 13 249 [(22, o), (1, 0), (1, 0), (0, a3), (0, l4), (1, 0), (0, l6), (0, x7), (0, x8), (1, 0), (1, 0), (1, 0), (1, 0)] [] h 0) : ∀ (f : Nat) (l7 : Int) (l8 : Int) (l9 : Int) (h : HP), wX12_lay_47 o a1 a2 a3 l4 l5 l6 K249 f l7 l8 l9 h → V G p l e (rmD 9 0) s m args below meth c (MQ below (QV G P) args s 0 0 (va_Aof G)) 13 47 [(22, o), (1, 0), (1, 0), (0, a3), (0, l4), (0, l5), (0, l6), (0, l7), (0, l8), (0, l9), (1, 0), (1, 0), (1, 0)] [] h 0 := by
  intro f
  induction f with
  | zero =>
    intro l7 l8 l9 h hw
    exact hw.elim
  | succ f ih =>
    intro l7 l8 l9 h hw
    refine V.iload hc dX12_lay_47 rfl ?_
    refine V.aload_n (t := 12) hc dX12_lay_49 rfl rfl ?_
    refine V.gR hc gR_X12_43 (i' := o) rfl dX12_lay_50 ?_
    refine V.iload hc dX12_lay_53 rfl ?_
    obtain ⟨g9, hw⟩ := hw
    refine V.ald hc ak_56 g9 dX12_lay_55 ?_
    obtain ⟨g10, hw⟩ := hw
    obtain ⟨g11, hw⟩ := hw
    refine V.icmp_ge hc (tgt := 249) dX12_lay_56 (by decide) g10 g11 (fun c12 => ?_) (fun c12 => ?_)
    · replace hw := hw.1 c12
      refine V.drop (lo' := [(22, o), (1, 0), (1, 0), (0, a3), (0, l4), (1, 0), (0, l6), (0, l7), (0, l8), (1, 0), (1, 0), (1, 0), (1, 0)]) ⟨Or.inr rfl, Or.inr rfl, Or.inr rfl, Or.inr rfl, Or.inr rfl, Or.inl rfl, Or.inr rfl, Or.inr rfl, Or.inr rfl, Or.inl rfl, Or.inr rfl, Or.inr rfl, Or.inr rfl, trivial⟩ ?_
      exact hK249 _ _ _ hw
    · replace hw := hw.2 c12
      refine V.aload_n (t := 12) hc dX12_lay_59 rfl rfl ?_
      refine V.gR hc gR_X12_43 (i' := o) rfl dX12_lay_60 ?_
      refine V.iload hc dX12_lay_63 rfl ?_
      refine V.iconst hc dX12_lay_65 ?_
      refine V.iadd hc dX12_lay_66 ?_
      refine V.iconst hc dX12_lay_67 ?_
      refine V.iload hc dX12_lay_68 rfl ?_
      refine V.imul hc dX12_lay_70 ?_
      refine V.iadd hc dX12_lay_71 ?_
      obtain ⟨g13, hw⟩ := hw
      refine V.ald hc ak_56 g13 dX12_lay_72 ?_
      refine V.istore hc dX12_lay_73 rfl (lo' := [(22, o), (1, 0), (1, 0), (0, a3), (0, l4), (0, l5), (0, l6), (0, l7), (0, l8), (0, l9), (0, h 56 o ((l6 + 1) + (2 * l9))), (1, 0), (1, 0)]) rfl ?_
      refine V.aload_n (t := 12) hc dX12_lay_75 rfl rfl ?_
      refine V.gR hc gR_X12_43 (i' := o) rfl dX12_lay_76 ?_
      refine V.iload hc dX12_lay_79 rfl ?_
      refine V.iconst hc dX12_lay_81 ?_
      refine V.iadd hc dX12_lay_82 ?_
      refine V.iconst hc dX12_lay_83 ?_
      refine V.iload hc dX12_lay_84 rfl ?_
      refine V.imul hc dX12_lay_86 ?_
      refine V.iadd hc dX12_lay_87 ?_
      obtain ⟨g14, hw⟩ := hw
      refine V.ald hc ak_56 g14 dX12_lay_88 ?_
      refine V.istore hc dX12_lay_89 rfl (lo' := [(22, o), (1, 0), (1, 0), (0, a3), (0, l4), (0, l5), (0, l6), (0, l7), (0, l8), (0, l9), (0, h 56 o ((l6 + 1) + (2 * l9))), (0, h 56 o ((l6 + 2) + (2 * l9))), (1, 0)]) rfl ?_
      refine V.bipush hc dX12_lay_91 (by decide) ?_
      refine V.iload hc dX12_lay_93 rfl ?_
      refine V.iload hc dX12_lay_95 rfl ?_
      refine V.isub hc dX12_lay_97 ?_
      refine V.imul hc dX12_lay_98 ?_
      refine V.aload_n (t := 12) hc dX12_lay_99 rfl rfl ?_
      refine V.gR hc gR_X12_43 (i' := o) rfl dX12_lay_100 ?_
      refine V.iload hc dX12_lay_103 rfl ?_
      refine V.iconst hc dX12_lay_105 ?_
      refine V.iadd hc dX12_lay_106 ?_
      obtain ⟨g15, hw⟩ := hw
      refine V.ald hc ak_56 g15 dX12_lay_107 ?_
      refine V.aload_n (t := 12) hc dX12_lay_108 rfl rfl ?_
      refine V.gR hc gR_X12_43 (i' := o) rfl dX12_lay_109 ?_
      refine V.iload hc dX12_lay_112 rfl ?_
      refine V.iconst hc dX12_lay_114 ?_
      refine V.iadd hc dX12_lay_115 ?_
      obtain ⟨g16, hw⟩ := hw
      refine V.ald hc ak_56 g16 dX12_lay_116 ?_
      refine V.imul hc dX12_lay_117 ?_
      obtain ⟨q20, hw⟩ := hw
      have kJ44 : ∀ t19 : Int, ((100 * (l4 - (h 56 o ((l6 + 2) + (2 * l9)))) ≤ (h 56 o (l5 + 1)) * (h 56 o (l5 + 2)) → t19 = 0) ∧ (¬ 100 * (l4 - (h 56 o ((l6 + 2) + (2 * l9)))) ≤ (h 56 o (l5 + 1)) * (h 56 o (l5 + 2)) → t19 = 1)) → V G p l e (rmD 9 0) s m args below meth c (MQ below (QV G P) args s 0 0 (va_Aof G)) 13 126 [(22, o), (1, 0), (1, 0), (0, a3), (0, l4), (0, l5), (0, l6), (0, l7), (0, l8), (0, l9), (0, h 56 o ((l6 + 1) + (2 * l9))), (0, h 56 o ((l6 + 2) + (2 * l9))), (1, 0)] [(0, t19)] h 0 := by
        intro t19 he
        replace hw := hw t19 he
        clear he
        refine V.istore hc dX12_lay_126 rfl (lo' := [(22, o), (1, 0), (1, 0), (0, a3), (0, l4), (0, l5), (0, l6), (0, l7), (0, l8), (0, l9), (0, h 56 o ((l6 + 1) + (2 * l9))), (0, h 56 o ((l6 + 2) + (2 * l9))), (0, t19)]) rfl ?_
        refine V.iload hc dX12_lay_128 rfl ?_
        obtain ⟨g21, hw⟩ := hw
        refine V.if_eq hc (tgt := 209) dX12_lay_130 (by decide) g21 (fun c22 => ?_) (fun c22 => ?_)
        · replace hw := hw.1 c22
          refine V.iload hc dX12_lay_209 rfl ?_
          refine V.iload hc dX12_lay_211 rfl ?_
          obtain ⟨g23, hw⟩ := hw
          obtain ⟨g24, hw⟩ := hw
          refine V.icmp_eq hc (tgt := 243) dX12_lay_213 (by decide) g23 g24 (fun c25 => ?_) (fun c25 => ?_)
          · replace hw := hw.1 c25
            refine V.drop (lo' := [(22, o), (1, 0), (1, 0), (0, a3), (0, l4), (0, l5), (0, l6), (0, l7), (0, l8), (0, l9), (1, 0), (1, 0), (1, 0)]) ⟨Or.inr rfl, Or.inr rfl, Or.inr rfl, Or.inr rfl, Or.inr rfl, Or.inr rfl, Or.inr rfl, Or.inr rfl, Or.inr rfl, Or.inr rfl, Or.inl rfl, Or.inl rfl, Or.inl rfl, trivial⟩ ?_
            exact tX12_lay_243 hc hr (fun y7 y8 y9 hy hw => by exact ih _ _ _ _ hw) hw
          · replace hw := hw.2 c25
            refine V.aload_n (t := 12) hc dX12_lay_216 rfl rfl ?_
            refine V.gR hc gR_X12_56 (i' := o) rfl dX12_lay_217 ?_
            refine V.iconst hc dX12_lay_220 ?_
            refine V.iload hc dX12_lay_221 rfl ?_
            refine V.imul hc dX12_lay_223 ?_
            refine V.iload hc dX12_lay_224 rfl ?_
            obtain ⟨g27, hw⟩ := hw
            refine V.ast hc ak_59 g27 dX12_lay_226 (fun h26 e => ?_)
            replace hw := hw h26 e
            clear e
            refine V.aload_n (t := 12) hc dX12_lay_227 rfl rfl ?_
            refine V.gR hc gR_X12_56 (i' := o) rfl dX12_lay_228 ?_
            refine V.iconst hc dX12_lay_231 ?_
            refine V.iload hc dX12_lay_232 rfl ?_
            refine V.imul hc dX12_lay_234 ?_
            refine V.iconst hc dX12_lay_235 ?_
            refine V.iadd hc dX12_lay_236 ?_
            refine V.iload hc dX12_lay_237 rfl ?_
            obtain ⟨g29, hw⟩ := hw
            refine V.ast hc ak_59 g29 dX12_lay_239 (fun h28 e => ?_)
            replace hw := hw h28 e
            clear e
            refine V.iinc hc dX12_lay_240 rfl rfl (lo' := [(22, o), (1, 0), (1, 0), (0, a3), (0, l4), (0, l5), (0, l6), (0, l7 + 1), (0, l8), (0, l9), (0, h 56 o ((l6 + 1) + (2 * l9))), (0, h 56 o ((l6 + 2) + (2 * l9))), (0, t19)]) rfl ?_
            refine V.drop (lo' := [(22, o), (1, 0), (1, 0), (0, a3), (0, l4), (0, l5), (0, l6), (0, l7 + 1), (0, l8), (0, l9), (1, 0), (1, 0), (1, 0)]) ⟨Or.inr rfl, Or.inr rfl, Or.inr rfl, Or.inr rfl, Or.inr rfl, Or.inr rfl, Or.inr rfl, Or.inr rfl, Or.inr rfl, Or.inr rfl, Or.inl rfl, Or.inl rfl, Or.inl rfl, trivial⟩ ?_
            exact tX12_lay_243 hc hr (fun y7 y8 y9 hy hw => by exact ih _ _ _ _ hw) hw
        · replace hw := hw.2 c22
          refine V.iload hc dX12_lay_133 rfl ?_
          refine V.iconst hc dX12_lay_135 ?_
          obtain ⟨q38, hw⟩ := hw
          have kJ39 : ∀ t37 : Int, ((l8 = (-1) → t37 = l9) ∧ (¬ l8 = (-1) → ((((h 56 o (l5 + 3)) * (h 56 o ((l6 + 1) + (2 * l9)))) - (100 * (h 56 o ((l6 + 2) + (2 * l9)))) ≤ ((h 56 o (l5 + 3)) * (h 56 o ((l6 + 1) + (2 * l8)))) - (100 * (h 56 o ((l6 + 2) + (2 * l8)))) → t37 = l8) ∧ (¬ ((h 56 o (l5 + 3)) * (h 56 o ((l6 + 1) + (2 * l9)))) - (100 * (h 56 o ((l6 + 2) + (2 * l9)))) ≤ ((h 56 o (l5 + 3)) * (h 56 o ((l6 + 1) + (2 * l8)))) - (100 * (h 56 o ((l6 + 2) + (2 * l8)))) → t37 = l9)))) → V G p l e (rmD 9 0) s m args below meth c (MQ below (QV G P) args s 0 0 (va_Aof G)) 13 243 [(22, o), (1, 0), (1, 0), (0, a3), (0, l4), (0, l5), (0, l6), (0, l7), (0, t37), (0, l9), (1, 0), (1, 0), (1, 0)] [] h 0 := by
            intro t37 he
            replace hw := hw t37 he
            clear he
            exact tX12_lay_243 hc hr (fun y7 y8 y9 hy hw => by exact ih _ _ _ _ hw) hw
          obtain ⟨g30, q40⟩ := q38
          refine V.icmp_eq hc (tgt := 202) dX12_lay_136 (by decide) g30 (by omega) (fun c41 => ?_) (fun c41 => ?_)
          · refine V.iload hc dX12_lay_202 rfl ?_
            refine V.istore hc dX12_lay_204 rfl (lo' := [(22, o), (1, 0), (1, 0), (0, a3), (0, l4), (0, l5), (0, l6), (0, l7), (0, l9), (0, l9), (0, h 56 o ((l6 + 1) + (2 * l9))), (0, h 56 o ((l6 + 2) + (2 * l9))), (0, t19)]) rfl ?_
            refine V.goto hc (tgt := 243) dX12_lay_206 (by decide) ?_
            refine V.drop (lo' := [(22, o), (1, 0), (1, 0), (0, a3), (0, l4), (0, l5), (0, l6), (0, l7), (0, l9), (0, l9), (1, 0), (1, 0), (1, 0)]) ⟨Or.inr rfl, Or.inr rfl, Or.inr rfl, Or.inr rfl, Or.inr rfl, Or.inr rfl, Or.inr rfl, Or.inr rfl, Or.inr rfl, Or.inr rfl, Or.inl rfl, Or.inl rfl, Or.inl rfl, trivial⟩ ?_
            exact kJ39 _ ⟨fun _ => rfl, (fun q => absurd c41 q)⟩
          · have q42 := q40 c41
            obtain ⟨g31, g32, g33, g34, g35, g36⟩ := q42
            refine V.aload_n (t := 12) hc dX12_lay_139 rfl rfl ?_
            refine V.gR hc gR_X12_43 (i' := o) rfl dX12_lay_140 ?_
            refine V.iload hc dX12_lay_143 rfl ?_
            refine V.iconst hc dX12_lay_145 ?_
            refine V.iadd hc dX12_lay_146 ?_
            refine V.ald hc ak_56 g31 dX12_lay_147 ?_
            refine V.iload hc dX12_lay_148 rfl ?_
            refine V.imul hc dX12_lay_150 ?_
            refine V.bipush hc dX12_lay_151 (by decide) ?_
            refine V.iload hc dX12_lay_153 rfl ?_
            refine V.imul hc dX12_lay_155 ?_
            refine V.isub hc dX12_lay_156 ?_
            refine V.aload_n (t := 12) hc dX12_lay_157 rfl rfl ?_
            refine V.gR hc gR_X12_43 (i' := o) rfl dX12_lay_158 ?_
            refine V.iload hc dX12_lay_161 rfl ?_
            refine V.iconst hc dX12_lay_163 ?_
            refine V.iadd hc dX12_lay_164 ?_
            refine V.ald hc ak_56 g32 dX12_lay_165 ?_
            refine V.aload_n (t := 12) hc dX12_lay_166 rfl rfl ?_
            refine V.gR hc gR_X12_43 (i' := o) rfl dX12_lay_167 ?_
            refine V.iload hc dX12_lay_170 rfl ?_
            refine V.iconst hc dX12_lay_172 ?_
            refine V.iadd hc dX12_lay_173 ?_
            refine V.iconst hc dX12_lay_174 ?_
            refine V.iload hc dX12_lay_175 rfl ?_
            refine V.imul hc dX12_lay_177 ?_
            refine V.iadd hc dX12_lay_178 ?_
            refine V.ald hc ak_56 g33 dX12_lay_179 ?_
            refine V.imul hc dX12_lay_180 ?_
            refine V.bipush hc dX12_lay_181 (by decide) ?_
            refine V.aload_n (t := 12) hc dX12_lay_183 rfl rfl ?_
            refine V.gR hc gR_X12_43 (i' := o) rfl dX12_lay_184 ?_
            refine V.iload hc dX12_lay_187 rfl ?_
            refine V.iconst hc dX12_lay_189 ?_
            refine V.iadd hc dX12_lay_190 ?_
            refine V.iconst hc dX12_lay_191 ?_
            refine V.iload hc dX12_lay_192 rfl ?_
            refine V.imul hc dX12_lay_194 ?_
            refine V.iadd hc dX12_lay_195 ?_
            refine V.ald hc ak_56 g34 dX12_lay_196 ?_
            refine V.imul hc dX12_lay_197 ?_
            refine V.isub hc dX12_lay_198 ?_
            refine V.icmp_le hc (tgt := 243) dX12_lay_199 (by decide) g35 g36 (fun c43 => ?_) (fun c43 => ?_)
            · refine V.drop (lo' := [(22, o), (1, 0), (1, 0), (0, a3), (0, l4), (0, l5), (0, l6), (0, l7), (0, l8), (0, l9), (1, 0), (1, 0), (1, 0)]) ⟨Or.inr rfl, Or.inr rfl, Or.inr rfl, Or.inr rfl, Or.inr rfl, Or.inr rfl, Or.inr rfl, Or.inr rfl, Or.inr rfl, Or.inr rfl, Or.inl rfl, Or.inl rfl, Or.inl rfl, trivial⟩ ?_
              exact kJ39 _ ⟨(fun q => absurd q c41), fun _ => ⟨fun _ => rfl, (fun q => absurd c43 q)⟩⟩
            · refine V.iload hc dX12_lay_202 rfl ?_
              refine V.istore hc dX12_lay_204 rfl (lo' := [(22, o), (1, 0), (1, 0), (0, a3), (0, l4), (0, l5), (0, l6), (0, l7), (0, l9), (0, l9), (0, h 56 o ((l6 + 1) + (2 * l9))), (0, h 56 o ((l6 + 2) + (2 * l9))), (0, t19)]) rfl ?_
              refine V.goto hc (tgt := 243) dX12_lay_206 (by decide) ?_
              refine V.drop (lo' := [(22, o), (1, 0), (1, 0), (0, a3), (0, l4), (0, l5), (0, l6), (0, l7), (0, l9), (0, l9), (1, 0), (1, 0), (1, 0)]) ⟨Or.inr rfl, Or.inr rfl, Or.inr rfl, Or.inr rfl, Or.inr rfl, Or.inr rfl, Or.inr rfl, Or.inr rfl, Or.inr rfl, Or.inr rfl, Or.inl rfl, Or.inl rfl, Or.inl rfl, trivial⟩ ?_
              exact kJ39 _ ⟨(fun q => absurd q c41), fun _ => ⟨(fun q => absurd q c43), fun _ => rfl⟩⟩
      obtain ⟨g17, g18⟩ := q20
      refine V.icmp_le hc (tgt := 125) dX12_lay_118 (by decide) g17 g18 (fun c45 => ?_) (fun c45 => ?_)
      · refine V.iconst hc dX12_lay_125 ?_
        exact kJ44 _ ⟨fun _ => rfl, (fun q => absurd c45 q)⟩
      · refine V.iconst hc dX12_lay_121 ?_
        refine V.goto hc (tgt := 126) dX12_lay_122 (by decide) ?_
        exact kJ44 _ ⟨(fun q => absurd q c45), fun _ => rfl⟩
theorem tX12_lay_344 {G : GG} {p : Program} {l : Launch} {e : Jvm.Env} {s : State} {m : MethodId} {args : Array Value} {below : List Frame} {meth : Method} {c : Code} {P : HP → Prop} (hc : VC G p (rmD 9 0) s m args meth c RX12 cX12_lay 13 9) (hr : meth.sig.returnType = none) {o : Int} {a1 : Int} {a2 : Int} {a3 : Int} {l6 : Int} {l7 : Int} {K378 : HP → Prop} (hK378 : ∀  (h : HP), K378  h → V G p l e (rmD 9 0) s m args below meth c (MQ below (QV G P) args s 0 0 (va_Aof G)) 13 378 [(1, 0), (1, 0), (1, 0), (1, 0), (1, 0), (1, 0), (1, 0), (1, 0), (1, 0), (1, 0), (1, 0), (1, 0), (1, 0)] [] h 0) : ∀ (f : Nat) (l9 : Int) (h : HP), wX12_lay_344 o a1 a2 a3 l6 l7 K378 f l9 h → V G p l e (rmD 9 0) s m args below meth c (MQ below (QV G P) args s 0 0 (va_Aof G)) 13 344 [(22, o), (1, 0), (1, 0), (1, 0), (1, 0), (1, 0), (0, l6), (0, l7), (1, 0), (0, l9), (1, 0), (1, 0), (1, 0)] [] h 0 := by
  intro f
  induction f with
  | zero =>
    intro l9 h hw
    exact hw.elim
  | succ f ih =>
    intro l9 h hw
    refine V.iload hc dX12_lay_344 rfl ?_
    refine V.iconst hc dX12_lay_346 ?_
    refine V.iload hc dX12_lay_347 rfl ?_
    refine V.imul hc dX12_lay_349 ?_
    obtain ⟨g58, hw⟩ := hw
    obtain ⟨g59, hw⟩ := hw
    refine V.icmp_ge hc (tgt := 378) dX12_lay_350 (by decide) g58 g59 (fun c60 => ?_) (fun c60 => ?_)
    · replace hw := hw.1 c60
      refine V.drop (lo' := [(1, 0), (1, 0), (1, 0), (1, 0), (1, 0), (1, 0), (1, 0), (1, 0), (1, 0), (1, 0), (1, 0), (1, 0), (1, 0)]) ⟨Or.inl rfl, Or.inr rfl, Or.inr rfl, Or.inr rfl, Or.inr rfl, Or.inr rfl, Or.inl rfl, Or.inl rfl, Or.inr rfl, Or.inl rfl, Or.inr rfl, Or.inr rfl, Or.inr rfl, trivial⟩ ?_
      exact hK378 _ hw
    · replace hw := hw.2 c60
      refine V.aload_n (t := 12) hc dX12_lay_353 rfl rfl ?_
      refine V.gR hc gR_X12_43 (i' := o) rfl dX12_lay_354 ?_
      refine V.iload hc dX12_lay_357 rfl ?_
      refine V.iconst hc dX12_lay_359 ?_
      refine V.iadd hc dX12_lay_360 ?_
      refine V.iload hc dX12_lay_361 rfl ?_
      refine V.iadd hc dX12_lay_363 ?_
      refine V.aload_n (t := 12) hc dX12_lay_364 rfl rfl ?_
      refine V.gR hc gR_X12_56 (i' := o) rfl dX12_lay_365 ?_
      refine V.iload hc dX12_lay_368 rfl ?_
      obtain ⟨g61, hw⟩ := hw
      refine V.ald hc ak_59 g61 dX12_lay_370 ?_
      obtain ⟨g63, hw⟩ := hw
      refine V.ast hc ak_56 g63 dX12_lay_371 (fun h62 e => ?_)
      replace hw := hw h62 e
      clear e
      refine V.iinc hc dX12_lay_372 rfl rfl (lo' := [(22, o), (1, 0), (1, 0), (1, 0), (1, 0), (1, 0), (0, l6), (0, l7), (1, 0), (0, l9 + 1), (1, 0), (1, 0), (1, 0)]) rfl ?_
      refine V.goto hc (tgt := 344) dX12_lay_375 (by decide) ?_
      exact ih _ _ hw
theorem tX12_lay_306 {G : GG} {p : Program} {l : Launch} {e : Jvm.Env} {s : State} {m : MethodId} {args : Array Value} {below : List Frame} {meth : Method} {c : Code} {P : HP → Prop} (hc : VC G p (rmD 9 0) s m args meth c RX12 cX12_lay 13 9) (hr : meth.sig.returnType = none) {o : Int} {a1 : Int} {a2 : Int} {a3 : Int} {l4 : Int} {l6 : Int} {l7 : Int} {h : HP} (hw : wX12_lay_306 o a1 a2 a3 l4 l6 l7 P h) : V G p l e (rmD 9 0) s m args below meth c (MQ below (QV G P) args s 0 0 (va_Aof G)) 13 306 [(22, o), (1, 0), (1, 0), (0, a3), (0, l4), (1, 0), (0, l6), (0, l7), (1, 0), (1, 0), (1, 0), (1, 0), (1, 0)] [] h 0 := by
  refine V.aload_n (t := 12) hc dX12_lay_306 rfl rfl ?_
  refine V.gR hc gR_X12_56 (i' := o) rfl dX12_lay_307 ?_
  refine V.iconst hc dX12_lay_310 ?_
  refine V.iload hc dX12_lay_311 rfl ?_
  refine V.imul hc dX12_lay_313 ?_
  refine V.iload_n hc dX12_lay_314 rfl rfl ?_
  obtain ⟨g53, hw⟩ := hw
  refine V.ast hc ak_59 g53 dX12_lay_315 (fun h52 e => ?_)
  replace hw := hw h52 e
  clear e
  refine V.aload_n (t := 12) hc dX12_lay_316 rfl rfl ?_
  refine V.gR hc gR_X12_56 (i' := o) rfl dX12_lay_317 ?_
  refine V.iconst hc dX12_lay_320 ?_
  refine V.iload hc dX12_lay_321 rfl ?_
  refine V.imul hc dX12_lay_323 ?_
  refine V.iconst hc dX12_lay_324 ?_
  refine V.iadd hc dX12_lay_325 ?_
  refine V.iload hc dX12_lay_326 rfl ?_
  obtain ⟨g55, hw⟩ := hw
  refine V.ast hc ak_59 g55 dX12_lay_328 (fun h54 e => ?_)
  replace hw := hw h54 e
  clear e
  refine V.iinc hc dX12_lay_329 rfl rfl (lo' := [(22, o), (1, 0), (1, 0), (0, a3), (0, l4), (1, 0), (0, l6), (0, l7 + 1), (1, 0), (1, 0), (1, 0), (1, 0), (1, 0)]) rfl ?_
  refine V.aload_n (t := 12) hc dX12_lay_332 rfl rfl ?_
  refine V.gR hc gR_X12_43 (i' := o) rfl dX12_lay_333 ?_
  refine V.iload hc dX12_lay_336 rfl ?_
  refine V.iload hc dX12_lay_338 rfl ?_
  obtain ⟨g57, hw⟩ := hw
  refine V.ast hc ak_56 g57 dX12_lay_340 (fun h56 e => ?_)
  replace hw := hw h56 e
  clear e
  refine V.iconst hc dX12_lay_341 ?_
  refine V.istore hc dX12_lay_342 rfl (lo' := [(22, o), (1, 0), (1, 0), (0, a3), (0, l4), (1, 0), (0, l6), (0, l7 + 1), (1, 0), (0, 0), (1, 0), (1, 0), (1, 0)]) rfl ?_
  obtain ⟨f64, hw⟩ := hw
  refine V.drop (lo' := [(22, o), (1, 0), (1, 0), (1, 0), (1, 0), (1, 0), (0, l6), (0, l7 + 1), (1, 0), (0, 0), (1, 0), (1, 0), (1, 0)]) ⟨Or.inr rfl, Or.inr rfl, Or.inr rfl, Or.inl rfl, Or.inl rfl, Or.inr rfl, Or.inr rfl, Or.inr rfl, Or.inr rfl, Or.inr rfl, Or.inr rfl, Or.inr rfl, Or.inr rfl, trivial⟩ ?_
  refine tX12_lay_344 hc hr ?_ f64 _ _ hw
  · intro h65 hw
    exact V.vret hc hr dX12_lay_378 hw
theorem qX12_lay (G : GG) (l : Launch) (o : Int) (a1 : Int) (a2 : Int) (a3 : Int) (h : HP) (P : HP → Prop) (hw : wX12_lay o a1 a2 a3 h P) : CnV l G yX12_lay cX12_lay 13 9 [(22, o), (0, a1), (0, a2), (0, a3)] h P := by
  refine CnV.of (lo := [(22, o), (0, a1), (0, a2), (0, a3), (1, 0), (1, 0), (1, 0), (1, 0), (1, 0), (1, 0), (1, 0), (1, 0), (1, 0)]) (by decide) rfl rfl rfl ?_
  intro p e s m args below meth c hc hr
  have hc : VC G p (rmD 9 0) s m args meth c RX12 cX12_lay 13 9 := hc
  refine V.aload_n (t := 12) hc dX12_lay_0 rfl rfl ?_
  refine V.gR hc gR_X12_43 (i' := o) rfl dX12_lay_1 ?_
  refine V.sipush hc dX12_lay_4 (by decide) ?_
  refine V.iload_n hc dX12_lay_7 rfl rfl ?_
  refine V.imul hc dX12_lay_8 ?_
  refine V.iload_n hc dX12_lay_9 rfl rfl ?_
  obtain ⟨q3, hw⟩ := hw
  have kJ72 : ∀ t2 : Int, ((¬ a2 = 0 → t2 = 12) ∧ (a2 = 0 → t2 = 13)) → V G p l e (rmD 9 0) s m args below meth c (MQ below (QV G P) args s 0 0 (va_Aof G)) 13 20 [(22, o), (0, a1), (0, a2), (0, a3), (1, 0), (1, 0), (1, 0), (1, 0), (1, 0), (1, 0), (1, 0), (1, 0), (1, 0)] [(0, t2), (0, 257 * a1), (66, o)] h 0 := by
    intro t2 he
    replace hw := hw t2 he
    clear he
    refine V.iadd hc dX12_lay_20 ?_
    obtain ⟨g4, hw⟩ := hw
    refine V.ald hc ak_56 g4 dX12_lay_21 ?_
    refine V.istore hc dX12_lay_22 rfl (lo' := [(22, o), (0, a1), (0, a2), (0, a3), (0, h 56 o ((257 * a1) + t2)), (1, 0), (1, 0), (1, 0), (1, 0), (1, 0), (1, 0), (1, 0), (1, 0)]) rfl ?_
    refine V.iload_n hc dX12_lay_24 rfl rfl ?_
    refine V.iload_n hc dX12_lay_25 rfl rfl ?_
    refine V.callSI hc (qX12_curveAt G l _ _ _ _ hw) mo_X12_curveAt ml_X12_245 (as := [(0, a1), (0, a2)]) rfl rfl rfl rfl rfl ⟨Nat.zero_le _, Nat.zero_le _⟩ dX12_lay_26 (fun x6 h5 hw => ?_)
    refine V.istore hc dX12_lay_29 rfl (lo' := [(22, o), (0, a1), (0, a2), (0, a3), (0, h 56 o ((257 * a1) + t2)), (0, x6), (1, 0), (1, 0), (1, 0), (1, 0), (1, 0), (1, 0), (1, 0)]) rfl ?_
    refine V.iload_n hc dX12_lay_31 rfl rfl ?_
    refine V.iload_n hc dX12_lay_32 rfl rfl ?_
    refine V.callSI hc (qX12_laidAt G l _ _ _ _ hw) mo_X12_laidAt ml_X12_248 (as := [(0, a1), (0, a2)]) rfl rfl rfl rfl rfl ⟨Nat.zero_le _, Nat.zero_le _⟩ dX12_lay_33 (fun x8 h7 hw => ?_)
    refine V.istore hc dX12_lay_36 rfl (lo' := [(22, o), (0, a1), (0, a2), (0, a3), (0, h 56 o ((257 * a1) + t2)), (0, x6), (0, x8), (1, 0), (1, 0), (1, 0), (1, 0), (1, 0), (1, 0)]) rfl ?_
    refine V.iconst hc dX12_lay_38 ?_
    refine V.istore hc dX12_lay_39 rfl (lo' := [(22, o), (0, a1), (0, a2), (0, a3), (0, h 56 o ((257 * a1) + t2)), (0, x6), (0, x8), (0, 0), (1, 0), (1, 0), (1, 0), (1, 0), (1, 0)]) rfl ?_
    refine V.iconst hc dX12_lay_41 ?_
    refine V.istore hc dX12_lay_42 rfl (lo' := [(22, o), (0, a1), (0, a2), (0, a3), (0, h 56 o ((257 * a1) + t2)), (0, x6), (0, x8), (0, 0), (0, (-1)), (1, 0), (1, 0), (1, 0), (1, 0)]) rfl ?_
    refine V.iconst hc dX12_lay_44 ?_
    refine V.istore hc dX12_lay_45 rfl (lo' := [(22, o), (0, a1), (0, a2), (0, a3), (0, h 56 o ((257 * a1) + t2)), (0, x6), (0, x8), (0, 0), (0, (-1)), (0, 0), (1, 0), (1, 0), (1, 0)]) rfl ?_
    obtain ⟨f46, hw⟩ := hw
    refine V.drop (lo' := [(22, o), (1, 0), (1, 0), (0, a3), (0, h 56 o ((257 * a1) + t2)), (0, x6), (0, x8), (0, 0), (0, (-1)), (0, 0), (1, 0), (1, 0), (1, 0)]) ⟨Or.inr rfl, Or.inl rfl, Or.inl rfl, Or.inr rfl, Or.inr rfl, Or.inr rfl, Or.inr rfl, Or.inr rfl, Or.inr rfl, Or.inr rfl, Or.inr rfl, Or.inr rfl, Or.inr rfl, trivial⟩ ?_
    refine tX12_lay_47 hc hr ?_ f46 _ _ _ _ hw
    · intro l47 l48 h49 hw
      refine V.iload hc dX12_lay_249 rfl ?_
      refine V.iconst hc dX12_lay_251 ?_
      obtain ⟨g50, hw⟩ := hw
      refine V.icmp_eq hc (tgt := 306) dX12_lay_252 (by decide) g50 (by omega) (fun c51 => ?_) (fun c51 => ?_)
      · replace hw := hw.1 c51
        refine V.drop (lo' := [(22, o), (1, 0), (1, 0), (0, a3), (0, h 56 o ((257 * a1) + t2)), (1, 0), (0, x8), (0, l47), (1, 0), (1, 0), (1, 0), (1, 0), (1, 0)]) ⟨Or.inr rfl, Or.inr rfl, Or.inr rfl, Or.inr rfl, Or.inr rfl, Or.inr rfl, Or.inr rfl, Or.inr rfl, Or.inl rfl, Or.inr rfl, Or.inr rfl, Or.inr rfl, Or.inr rfl, trivial⟩ ?_
        exact tX12_lay_306 hc hr  hw
      · replace hw := hw.2 c51
        refine V.aload_n (t := 12) hc dX12_lay_255 rfl rfl ?_
        refine V.gR hc gR_X12_56 (i' := o) rfl dX12_lay_256 ?_
        refine V.iconst hc dX12_lay_259 ?_
        refine V.iload hc dX12_lay_260 rfl ?_
        refine V.imul hc dX12_lay_262 ?_
        refine V.aload_n (t := 12) hc dX12_lay_263 rfl rfl ?_
        refine V.gR hc gR_X12_43 (i' := o) rfl dX12_lay_264 ?_
        refine V.iload hc dX12_lay_267 rfl ?_
        refine V.iconst hc dX12_lay_269 ?_
        refine V.iadd hc dX12_lay_270 ?_
        refine V.iconst hc dX12_lay_271 ?_
        refine V.iload hc dX12_lay_272 rfl ?_
        refine V.imul hc dX12_lay_274 ?_
        refine V.iadd hc dX12_lay_275 ?_
        obtain ⟨g66, hw⟩ := hw
        refine V.ald hc ak_56 g66 dX12_lay_276 ?_
        obtain ⟨g68, hw⟩ := hw
        refine V.ast hc ak_59 g68 dX12_lay_277 (fun h67 e => ?_)
        replace hw := hw h67 e
        clear e
        refine V.aload_n (t := 12) hc dX12_lay_278 rfl rfl ?_
        refine V.gR hc gR_X12_56 (i' := o) rfl dX12_lay_279 ?_
        refine V.iconst hc dX12_lay_282 ?_
        refine V.iload hc dX12_lay_283 rfl ?_
        refine V.imul hc dX12_lay_285 ?_
        refine V.iconst hc dX12_lay_286 ?_
        refine V.iadd hc dX12_lay_287 ?_
        refine V.aload_n (t := 12) hc dX12_lay_288 rfl rfl ?_
        refine V.gR hc gR_X12_43 (i' := o) rfl dX12_lay_289 ?_
        refine V.iload hc dX12_lay_292 rfl ?_
        refine V.iconst hc dX12_lay_294 ?_
        refine V.iadd hc dX12_lay_295 ?_
        refine V.iconst hc dX12_lay_296 ?_
        refine V.iload hc dX12_lay_297 rfl ?_
        refine V.imul hc dX12_lay_299 ?_
        refine V.iadd hc dX12_lay_300 ?_
        obtain ⟨g69, hw⟩ := hw
        refine V.ald hc ak_56 g69 dX12_lay_301 ?_
        obtain ⟨g71, hw⟩ := hw
        refine V.ast hc ak_59 g71 dX12_lay_302 (fun h70 e => ?_)
        replace hw := hw h70 e
        clear e
        refine V.iinc hc dX12_lay_303 rfl rfl (lo' := [(22, o), (1, 0), (1, 0), (0, a3), (0, h 56 o ((257 * a1) + t2)), (1, 0), (0, x8), (0, l47 + 1), (0, l48), (1, 0), (1, 0), (1, 0), (1, 0)]) rfl ?_
        refine V.drop (lo' := [(22, o), (1, 0), (1, 0), (0, a3), (0, h 56 o ((257 * a1) + t2)), (1, 0), (0, x8), (0, l47 + 1), (1, 0), (1, 0), (1, 0), (1, 0), (1, 0)]) ⟨Or.inr rfl, Or.inr rfl, Or.inr rfl, Or.inr rfl, Or.inr rfl, Or.inr rfl, Or.inr rfl, Or.inr rfl, Or.inl rfl, Or.inr rfl, Or.inr rfl, Or.inr rfl, Or.inr rfl, trivial⟩ ?_
        exact tX12_lay_306 hc hr  hw
  have g1 := q3
  refine V.if_ne hc (tgt := 18) dX12_lay_10 (by decide) g1 (fun c73 => ?_) (fun c73 => ?_)
  · refine V.bipush hc dX12_lay_18 (by decide) ?_
    exact kJ72 _ ⟨fun _ => rfl, (fun q => absurd q c73)⟩
  · refine V.bipush hc dX12_lay_13 (by decide) ?_
    refine V.goto hc (tgt := 20) dX12_lay_15 (by decide) ?_
    exact kJ72 _ ⟨(fun q => absurd c73 q), fun _ => rfl⟩
