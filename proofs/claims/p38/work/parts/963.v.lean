theorem tX9_takeNumber_10 {G : GG} {p : Program} {l : Launch} {e : Jvm.Env} {s : State} {m : MethodId} {args : Array Value} {below : List Frame} {meth : Method} {c : Code} {P : HP → Prop} (hc : VC G p (rmD 2 0) s m args meth c RX9 cX9_takeNumber 1 2) (hr : meth.sig.returnType = none) {o : Int} {K95 : HP → Prop} (hK95 : ∀  (h : HP), K95  h → V G p l e (rmD 2 0) s m args below meth c (MQ below (QV G P) args s 0 0 (va_Aof G)) 1 95 [(1, 0)] [] h 0) : ∀ (f : Nat)  (h : HP), wX9_takeNumber_10 o K95 f  h → V G p l e (rmD 2 0) s m args below meth c (MQ below (QV G P) args s 0 0 (va_Aof G)) 1 10 [(19, o)] [] h 0 := by
  intro f
  induction f with
  | zero =>
    intro h hw
    exact hw.elim
  | succ f ih =>
    intro h hw
    refine V.aload_n (t := 9) hc dX9_takeNumber_10 rfl rfl ?_
    refine V.gI hc gI_X9_18 rfl dX9_takeNumber_11 ?_
    refine V.aload_n (t := 9) hc dX9_takeNumber_14 rfl rfl ?_
    refine V.gI hc gI_X9_9 rfl dX9_takeNumber_15 ?_
    obtain ⟨g3, hw⟩ := hw
    obtain ⟨g4, hw⟩ := hw
    refine V.icmp_ge hc (tgt := 95) dX9_takeNumber_18 (by decide) g3 g4 (fun c5 => ?_) (fun c5 => ?_)
    · replace hw := hw.1 c5
      refine V.drop (lo' := [(1, 0)]) ⟨Or.inl rfl, trivial⟩ ?_
      exact hK95 _ hw
    · replace hw := hw.2 c5
      refine V.aload_n (t := 9) hc dX9_takeNumber_21 rfl rfl ?_
      refine V.aload_n (t := 9) hc dX9_takeNumber_22 rfl rfl ?_
      refine V.gI hc gI_X9_18 rfl dX9_takeNumber_23 ?_
      refine V.callVI hc (qX9_isDigit G l _ _ _ _ hw) mo_X9_isDigit ml_X9_97 (by rfl) rfl rfl (as := [(0, h 9 o 4)]) rfl rfl rfl rfl rfl ⟨Nat.zero_le _, Nat.zero_le _⟩ dX9_takeNumber_26 (fun x7 h6 hw => ?_)
      obtain ⟨g8, hw⟩ := hw
      refine V.if_eq hc (tgt := 95) dX9_takeNumber_29 (by decide) g8 (fun c9 => ?_) (fun c9 => ?_)
      · replace hw := hw.1 c9
        refine V.drop (lo' := [(1, 0)]) ⟨Or.inl rfl, trivial⟩ ?_
        exact hK95 _ hw
      · replace hw := hw.2 c9
        refine V.aload_n (t := 9) hc dX9_takeNumber_32 rfl rfl ?_
        refine V.aload_n (t := 9) hc dX9_takeNumber_33 rfl rfl ?_
        refine V.gI hc gI_X9_24 rfl dX9_takeNumber_34 ?_
        refine V.bipush hc dX9_takeNumber_37 (by decide) ?_
        refine V.imul hc dX9_takeNumber_39 ?_
        refine V.aload_n (t := 9) hc dX9_takeNumber_40 rfl rfl ?_
        refine V.gR hc gR_X9_27 (i' := 0) rfl dX9_takeNumber_41 ?_
        refine V.aload_n (t := 9) hc dX9_takeNumber_44 rfl rfl ?_
        refine V.gI hc gI_X9_18 rfl dX9_takeNumber_45 ?_
        obtain ⟨g10, hw⟩ := hw
        refine V.ald hc ak_45 g10 dX9_takeNumber_48 ?_
        refine V.iadd hc dX9_takeNumber_49 ?_
        refine V.bipush hc dX9_takeNumber_50 (by decide) ?_
        refine V.isub hc dX9_takeNumber_52 ?_
        refine V.pI hc pI_X9_24 rfl dX9_takeNumber_53 (fun h11 e => ?_)
        replace hw := hw h11 e
        clear e
        refine V.aload_n (t := 9) hc dX9_takeNumber_56 rfl rfl ?_
        refine V.aload_n (t := 9) hc dX9_takeNumber_57 rfl rfl ?_
        refine V.gI hc gI_X9_18 rfl dX9_takeNumber_58 ?_
        refine V.aload_n (t := 9) hc dX9_takeNumber_61 rfl rfl ?_
        refine V.gI hc gI_X9_15 rfl dX9_takeNumber_62 ?_
        refine V.isub hc dX9_takeNumber_65 ?_
        refine V.iconst hc dX9_takeNumber_66 ?_
        obtain ⟨q14, hw⟩ := hw
        have kJ17 : ∀ t13 : Int, (((h11 9 o 4) - (h11 9 o 3) < 3 → t13 = h11 9 o 6) ∧ (¬ (h11 9 o 4) - (h11 9 o 3) < 3 → t13 = 1000000)) → V G p l e (rmD 2 0) s m args below meth c (MQ below (QV G P) args s 0 0 (va_Aof G)) 1 79 [(19, o)] [(0, t13), (19, o)] h11 0 := by
          intro t13 he
          replace hw := hw t13 he
          clear he
          refine V.pI hc pI_X9_24 rfl dX9_takeNumber_79 (fun h15 e => ?_)
          replace hw := hw h15 e
          clear e
          refine V.aload_n (t := 9) hc dX9_takeNumber_82 rfl rfl ?_
          refine V.dup hc dX9_takeNumber_83 (by simp) ?_
          refine V.gI hc gI_X9_18 rfl dX9_takeNumber_84 ?_
          refine V.iconst hc dX9_takeNumber_87 ?_
          refine V.iadd hc dX9_takeNumber_88 ?_
          refine V.pI hc pI_X9_18 rfl dX9_takeNumber_89 (fun h16 e => ?_)
          replace hw := hw h16 e
          clear e
          refine V.goto hc (tgt := 10) dX9_takeNumber_92 (by decide) ?_
          exact ih _ hw
        have g12 := q14
        refine V.icmp_lt hc (tgt := 75) dX9_takeNumber_67 (by decide) g12 (by omega) (fun c18 => ?_) (fun c18 => ?_)
        · refine V.aload_n (t := 9) hc dX9_takeNumber_75 rfl rfl ?_
          refine V.gI hc gI_X9_24 rfl dX9_takeNumber_76 ?_
          exact kJ17 _ ⟨fun _ => rfl, (fun q => absurd c18 q)⟩
        · refine V.ldc hc (x := 1000000) kl_X9_119 dX9_takeNumber_70 ?_
          refine V.goto hc (tgt := 79) dX9_takeNumber_72 (by decide) ?_
          exact kJ17 _ ⟨(fun q => absurd q c18), fun _ => rfl⟩
theorem qX9_takeNumber (G : GG) (l : Launch) (o : Int) (h : HP) (P : HP → Prop) (hw : wX9_takeNumber o h P) : CnV l G yX9_takeNumber cX9_takeNumber 1 2 [(19, o)] h P := by
  refine CnV.of (lo := [(19, o)]) (by decide) rfl rfl rfl ?_
  intro p e s m args below meth c hc hr
  have hc : VC G p (rmD 2 0) s m args meth c RX9 cX9_takeNumber 1 2 := hc
  refine V.aload_n (t := 9) hc dX9_takeNumber_0 rfl rfl ?_
  refine V.iconst hc dX9_takeNumber_1 ?_
  refine V.pI hc pI_X9_21 rfl dX9_takeNumber_2 (fun h1 e => ?_)
  replace hw := hw h1 e
  clear e
  refine V.aload_n (t := 9) hc dX9_takeNumber_5 rfl rfl ?_
  refine V.iconst hc dX9_takeNumber_6 ?_
  refine V.pI hc pI_X9_24 rfl dX9_takeNumber_7 (fun h2 e => ?_)
  replace hw := hw h2 e
  clear e
  obtain ⟨f19, hw⟩ := hw
  refine tX9_takeNumber_10 hc hr ?_ f19 _ hw
  · intro h20 hw
    exact V.vret hc hr dX9_takeNumber_95 hw
theorem tX9_takeToken_47 {G : GG} {p : Program} {l : Launch} {e : Jvm.Env} {s : State} {m : MethodId} {args : Array Value} {below : List Frame} {meth : Method} {c : Code} {P : HP → Prop} (hc : VC G p (rmD 7 0) s m args meth c RX9 cX9_takeToken 1 7) (hr : meth.sig.returnType = none) {o : Int} {h : HP} {K8 : HP → Prop} (hK8 : ∀  (h : HP), K8  h → V G p l e (rmD 7 0) s m args below meth c (MQ below (QV G P) args s 0 0 (va_Aof G)) 1 8 [(19, o)] [] h 0) (hw : wX9_takeToken_47 o K8 h) : V G p l e (rmD 7 0) s m args below meth c (MQ below (QV G P) args s 0 0 (va_Aof G)) 1 47 [(19, o)] [] h 0 := by
  refine V.aload_n (t := 9) hc dX9_takeToken_47 rfl rfl ?_
  refine V.dup hc dX9_takeToken_48 (by simp) ?_
  refine V.gI hc gI_X9_15 rfl dX9_takeToken_49 ?_
  refine V.iconst hc dX9_takeToken_52 ?_
  refine V.iadd hc dX9_takeToken_53 ?_
  refine V.pI hc pI_X9_15 rfl dX9_takeToken_54 (fun h8 e => ?_)
  replace hw := hw h8 e
  clear e
  refine V.goto hc (tgt := 8) dX9_takeToken_57 (by decide) ?_
  exact hK8 _ hw
theorem tX9_takeToken_8 {G : GG} {p : Program} {l : Launch} {e : Jvm.Env} {s : State} {m : MethodId} {args : Array Value} {below : List Frame} {meth : Method} {c : Code} {P : HP → Prop} (hc : VC G p (rmD 7 0) s m args meth c RX9 cX9_takeToken 1 7) (hr : meth.sig.returnType = none) {o : Int} {K60 : HP → Prop} (hK60 : ∀  (h : HP), K60  h → V G p l e (rmD 7 0) s m args below meth c (MQ below (QV G P) args s 0 0 (va_Aof G)) 1 60 [(19, o)] [] h 0) : ∀ (f : Nat)  (h : HP), wX9_takeToken_8 o K60 f  h → V G p l e (rmD 7 0) s m args below meth c (MQ below (QV G P) args s 0 0 (va_Aof G)) 1 8 [(19, o)] [] h 0 := by
  intro f
  induction f with
  | zero =>
    intro h hw
    exact hw.elim
  | succ f ih =>
    intro h hw
    refine V.aload_n (t := 9) hc dX9_takeToken_8 rfl rfl ?_
    refine V.gI hc gI_X9_15 rfl dX9_takeToken_9 ?_
    refine V.aload_n (t := 9) hc dX9_takeToken_12 rfl rfl ?_
    refine V.gI hc gI_X9_9 rfl dX9_takeToken_13 ?_
    obtain ⟨g2, hw⟩ := hw
    obtain ⟨g3, hw⟩ := hw
    refine V.icmp_ge hc (tgt := 60) dX9_takeToken_16 (by decide) g2 g3 (fun c4 => ?_) (fun c4 => ?_)
    · replace hw := hw.1 c4
      exact hK60 _ hw
    · replace hw := hw.2 c4
      refine V.aload_n (t := 9) hc dX9_takeToken_19 rfl rfl ?_
      refine V.gR hc gR_X9_27 (i' := 0) rfl dX9_takeToken_20 ?_
      refine V.aload_n (t := 9) hc dX9_takeToken_23 rfl rfl ?_
      refine V.gI hc gI_X9_15 rfl dX9_takeToken_24 ?_
      obtain ⟨g5, hw⟩ := hw
      refine V.ald hc ak_45 g5 dX9_takeToken_27 ?_
      refine V.bipush hc dX9_takeToken_28 (by decide) ?_
      obtain ⟨g6, hw⟩ := hw
      refine V.icmp_eq hc (tgt := 47) dX9_takeToken_30 (by decide) g6 (by omega) (fun c7 => ?_) (fun c7 => ?_)
      · replace hw := hw.1 c7
        exact tX9_takeToken_47 hc hr (fun hy hw => by exact ih _ hw) hw
      · replace hw := hw.2 c7
        refine V.aload_n (t := 9) hc dX9_takeToken_33 rfl rfl ?_
        refine V.gR hc gR_X9_27 (i' := 0) rfl dX9_takeToken_34 ?_
        refine V.aload_n (t := 9) hc dX9_takeToken_37 rfl rfl ?_
        refine V.gI hc gI_X9_15 rfl dX9_takeToken_38 ?_
        obtain ⟨g9, hw⟩ := hw
        refine V.ald hc ak_45 g9 dX9_takeToken_41 ?_
        refine V.bipush hc dX9_takeToken_42 (by decide) ?_
        obtain ⟨g10, hw⟩ := hw
        refine V.icmp_ne hc (tgt := 60) dX9_takeToken_44 (by decide) g10 (by omega) (fun c11 => ?_) (fun c11 => ?_)
        · replace hw := hw.1 c11
          exact hK60 _ hw
        · replace hw := hw.2 c11
          exact tX9_takeToken_47 hc hr (fun hy hw => by exact ih _ hw) hw
theorem qX9_takeToken (G : GG) (l : Launch) (o : Int) (h : HP) (P : HP → Prop) (hw : wX9_takeToken o h P) : CnV l G yX9_takeToken cX9_takeToken 1 7 [(19, o)] h P := by
  refine CnV.of (lo := [(19, o)]) (by decide) rfl rfl rfl ?_
  intro p e s m args below meth c hc hr
  have hc : VC G p (rmD 7 0) s m args meth c RX9 cX9_takeToken 1 7 := hc
  refine V.aload_n (t := 9) hc dX9_takeToken_0 rfl rfl ?_
  refine V.aload_n (t := 9) hc dX9_takeToken_1 rfl rfl ?_
  refine V.gI hc gI_X9_18 rfl dX9_takeToken_2 ?_
  refine V.pI hc pI_X9_15 rfl dX9_takeToken_5 (fun h1 e => ?_)
  replace hw := hw h1 e
  clear e
  obtain ⟨f12, hw⟩ := hw
  refine tX9_takeToken_8 hc hr ?_ f12 _ hw
  · intro h13 hw
    refine V.aload_n (t := 9) hc dX9_takeToken_60 rfl rfl ?_
    refine V.aload_n (t := 9) hc dX9_takeToken_61 rfl rfl ?_
    refine V.gI hc gI_X9_15 rfl dX9_takeToken_62 ?_
    refine V.pI hc pI_X9_18 rfl dX9_takeToken_65 (fun h14 e => ?_)
    replace hw := hw h14 e
    clear e
    refine V.aload_n (t := 9) hc dX9_takeToken_68 rfl rfl ?_
    refine V.gI hc gI_X9_15 rfl dX9_takeToken_69 ?_
    refine V.aload_n (t := 9) hc dX9_takeToken_72 rfl rfl ?_
    refine V.gI hc gI_X9_9 rfl dX9_takeToken_73 ?_
    obtain ⟨g15, hw⟩ := hw
    obtain ⟨g16, hw⟩ := hw
    refine V.icmp_lt hc (tgt := 87) dX9_takeToken_76 (by decide) g15 g16 (fun c17 => ?_) (fun c17 => ?_)
    · replace hw := hw.1 c17
      refine V.aload_n (t := 9) hc dX9_takeToken_87 rfl rfl ?_
      refine V.aload_n (t := 9) hc dX9_takeToken_88 rfl rfl ?_
      refine V.gI hc gI_X9_15 rfl dX9_takeToken_89 ?_
      refine V.callVI hc (qX9_isLetter G l _ _ _ _ hw) mo_X9_isLetter ml_X9_91 (by rfl) rfl rfl (as := [(0, h14 9 o 3)]) rfl rfl rfl rfl rfl ⟨Nat.zero_le _, Nat.zero_le _⟩ dX9_takeToken_92 (fun x19 h18 hw => ?_)
      obtain ⟨g20, hw⟩ := hw
      refine V.if_eq hc (tgt := 105) dX9_takeToken_95 (by decide) g20 (fun c21 => ?_) (fun c21 => ?_)
      · replace hw := hw.1 c21
        refine V.aload_n (t := 9) hc dX9_takeToken_105 rfl rfl ?_
        refine V.aload_n (t := 9) hc dX9_takeToken_106 rfl rfl ?_
        refine V.gI hc gI_X9_15 rfl dX9_takeToken_107 ?_
        refine V.callVI hc (qX9_isDigit G l _ _ _ _ hw) mo_X9_isDigit ml_X9_97 (by rfl) rfl rfl (as := [(0, h18 9 o 3)]) rfl rfl rfl rfl rfl ⟨Nat.zero_le _, Nat.zero_le _⟩ dX9_takeToken_110 (fun x23 h22 hw => ?_)
        obtain ⟨g24, hw⟩ := hw
        refine V.if_eq hc (tgt := 123) dX9_takeToken_113 (by decide) g24 (fun c25 => ?_) (fun c25 => ?_)
        · replace hw := hw.1 c25
          refine V.aload_n (t := 9) hc dX9_takeToken_123 rfl rfl ?_
          refine V.aload_n (t := 9) hc dX9_takeToken_124 rfl rfl ?_
          refine V.gR hc gR_X9_27 (i' := 0) rfl dX9_takeToken_125 ?_
          refine V.aload_n (t := 9) hc dX9_takeToken_128 rfl rfl ?_
          refine V.gI hc gI_X9_15 rfl dX9_takeToken_129 ?_
          obtain ⟨g26, hw⟩ := hw
          refine V.ald hc ak_45 g26 dX9_takeToken_132 ?_
          refine V.bipush hc dX9_takeToken_133 (by decide) ?_
          obtain ⟨q29, hw⟩ := hw
          have kJ32 : ∀ t28 : Int, ((¬ h22 45 0 (h22 9 o 3) = 59 → t28 = 1) ∧ (h22 45 0 (h22 9 o 3) = 59 → t28 = 3)) → V G p l e (rmD 7 0) s m args below meth c (MQ below (QV G P) args s 0 0 (va_Aof G)) 1 143 [(19, o)] [(0, t28), (19, o)] h22 0 := by
            intro t28 he
            replace hw := hw t28 he
            clear he
            refine V.pI hc pI_X9_21 rfl dX9_takeToken_143 (fun h30 e => ?_)
            replace hw := hw h30 e
            clear e
            refine V.aload_n (t := 9) hc dX9_takeToken_146 rfl rfl ?_
            refine V.aload_n (t := 9) hc dX9_takeToken_147 rfl rfl ?_
            refine V.gI hc gI_X9_15 rfl dX9_takeToken_148 ?_
            refine V.iconst hc dX9_takeToken_151 ?_
            refine V.iadd hc dX9_takeToken_152 ?_
            refine V.pI hc pI_X9_18 rfl dX9_takeToken_153 (fun h31 e => ?_)
            replace hw := hw h31 e
            clear e
            exact V.vret hc hr dX9_takeToken_156 hw
          have g27 := q29
          refine V.icmp_ne hc (tgt := 142) dX9_takeToken_135 (by decide) g27 (by omega) (fun c33 => ?_) (fun c33 => ?_)
          · refine V.iconst hc dX9_takeToken_142 ?_
            exact kJ32 _ ⟨fun _ => rfl, (fun q => absurd q c33)⟩
          · refine V.iconst hc dX9_takeToken_138 ?_
            refine V.goto hc (tgt := 143) dX9_takeToken_139 (by decide) ?_
            exact kJ32 _ ⟨(fun q => absurd c33 q), fun _ => rfl⟩
        · replace hw := hw.2 c25
          refine V.aload_n (t := 9) hc dX9_takeToken_116 rfl rfl ?_
          refine V.callVV hc (qX9_takeNumber G l _ _ _ hw) mo_X9_takeNumber ml_X9_100 (by rfl) rfl rfl (as := []) rfl rfl rfl rfl rfl ⟨Nat.zero_le _, Nat.zero_le _⟩ dX9_takeToken_117 (fun h34 hw => ?_)
          refine V.goto hc (tgt := 156) dX9_takeToken_120 (by decide) ?_
          exact V.vret hc hr dX9_takeToken_156 hw
      · replace hw := hw.2 c21
        refine V.aload_n (t := 9) hc dX9_takeToken_98 rfl rfl ?_
        refine V.callVV hc (qX9_takeWord G l _ _ _ hw) mo_X9_takeWord ml_X9_94 (by rfl) rfl rfl (as := []) rfl rfl rfl rfl rfl ⟨Nat.zero_le _, Nat.zero_le _⟩ dX9_takeToken_99 (fun h35 hw => ?_)
        refine V.goto hc (tgt := 156) dX9_takeToken_102 (by decide) ?_
        exact V.vret hc hr dX9_takeToken_156 hw
    · replace hw := hw.2 c17
      refine V.aload_n (t := 9) hc dX9_takeToken_79 rfl rfl ?_
      refine V.iconst hc dX9_takeToken_80 ?_
      refine V.pI hc pI_X9_21 rfl dX9_takeToken_81 (fun h36 e => ?_)
      replace hw := hw h36 e
      clear e
      refine V.goto hc (tgt := 156) dX9_takeToken_84 (by decide) ?_
      exact V.vret hc hr dX9_takeToken_156 hw
theorem qX9_readNumber (G : GG) (l : Launch) (o : Int) (a1 : Int) (a2 : Int) (h : HP) (P : Int → HP → Prop) (hw : wX9_readNumber o a1 a2 h P) : CnI l G yX9_readNumber cX9_readNumber 3 (some .int) 8 [(19, o), (0, a1), (0, a2)] h P := by
  refine CnI.of (lo := [(19, o), (0, a1), (0, a2)]) (by decide) rfl rfl rfl ?_
  intro p e s m args below meth c hc hr
  have hc : VC G p (rmD 8 0) s m args meth c RX9 cX9_readNumber 3 8 := hc
  refine V.aload_n (t := 9) hc dX9_readNumber_0 rfl rfl ?_
  refine V.callVV hc (qX9_takeToken G l _ _ _ hw) mo_X9_takeToken ml_X9_40 (by rfl) rfl rfl (as := []) rfl rfl rfl rfl rfl ⟨Nat.zero_le _, Nat.zero_le _⟩ dX9_readNumber_1 (fun h1 hw => ?_)
  refine V.aload_n (t := 9) hc dX9_readNumber_4 rfl rfl ?_
  refine V.gI hc gI_X9_21 rfl dX9_readNumber_5 ?_
  refine V.iconst hc dX9_readNumber_8 ?_
  obtain ⟨g2, hw⟩ := hw
  refine V.icmp_eq hc (tgt := 14) dX9_readNumber_9 (by decide) g2 (by omega) (fun c3 => ?_) (fun c3 => ?_)
  · replace hw := hw.1 c3
    refine V.aload_n (t := 9) hc dX9_readNumber_14 rfl rfl ?_
    refine V.gI hc gI_X9_24 rfl dX9_readNumber_15 ?_
    refine V.iload_n hc dX9_readNumber_18 rfl rfl ?_
    obtain ⟨q9, hw⟩ := hw
    have kJ10 : ∀ t8 : Int, ((h1 9 o 6 < a1 → t8 = 2) ∧ (¬ h1 9 o 6 < a1 → ((h1 9 o 6 ≤ a2 → t8 = 0) ∧ (¬ h1 9 o 6 ≤ a2 → t8 = 2)))) → V G p l e (rmD 8 0) s m args below meth c (MQ below (QI G P) args s 0 0 (va_Aof G)) 3 35 [(1, 0), (1, 0), (1, 0)] [(0, t8)] h1 0 := by
      intro t8 he
      replace hw := hw t8 he
      clear he
      exact V.iret hc hr dX9_readNumber_35 hw
    obtain ⟨g4, g5, q11⟩ := q9
    refine V.icmp_lt hc (tgt := 30) dX9_readNumber_19 (by decide) g4 g5 (fun c12 => ?_) (fun c12 => ?_)
    · refine V.iconst hc dX9_readNumber_30 ?_
      refine V.goto hc (tgt := 35) dX9_readNumber_31 (by decide) ?_
      refine V.drop (lo' := [(1, 0), (1, 0), (1, 0)]) ⟨Or.inl rfl, Or.inl rfl, Or.inl rfl, trivial⟩ ?_
      exact kJ10 _ ⟨fun _ => rfl, (fun q => absurd c12 q)⟩
    · have q13 := q11 c12
      obtain ⟨g6, g7⟩ := q13
      refine V.aload_n (t := 9) hc dX9_readNumber_22 rfl rfl ?_
      refine V.gI hc gI_X9_24 rfl dX9_readNumber_23 ?_
      refine V.iload_n hc dX9_readNumber_26 rfl rfl ?_
      refine V.icmp_le hc (tgt := 34) dX9_readNumber_27 (by decide) g6 g7 (fun c14 => ?_) (fun c14 => ?_)
      · refine V.iconst hc dX9_readNumber_34 ?_
        refine V.drop (lo' := [(1, 0), (1, 0), (1, 0)]) ⟨Or.inl rfl, Or.inl rfl, Or.inl rfl, trivial⟩ ?_
        exact kJ10 _ ⟨(fun q => absurd q c12), fun _ => ⟨fun _ => rfl, (fun q => absurd c14 q)⟩⟩
      · refine V.iconst hc dX9_readNumber_30 ?_
        refine V.goto hc (tgt := 35) dX9_readNumber_31 (by decide) ?_
        refine V.drop (lo' := [(1, 0), (1, 0), (1, 0)]) ⟨Or.inl rfl, Or.inl rfl, Or.inl rfl, trivial⟩ ?_
        exact kJ10 _ ⟨(fun q => absurd q c12), fun _ => ⟨(fun q => absurd q c14), fun _ => rfl⟩⟩
  · replace hw := hw.2 c3
    refine V.iconst hc dX9_readNumber_12 ?_
    exact V.iret hc hr dX9_readNumber_13 hw
theorem qX9_readClass (G : GG) (l : Launch) (o : Int) (h : HP) (P : Int → HP → Prop) (hw : wX9_readClass o h P) : CnI l G yX9_readClass cX9_readClass 3 (some .int) 9 [(19, o)] h P := by
  refine CnI.of (lo := [(19, o), (1, 0), (1, 0)]) (by decide) rfl rfl rfl ?_
  intro p e s m args below meth c hc hr
  have hc : VC G p (rmD 9 0) s m args meth c RX9 cX9_readClass 3 9 := hc
  refine V.aload_n (t := 9) hc dX9_readClass_0 rfl rfl ?_
  refine V.gR hc gR_X9_31 (i' := 2) rfl dX9_readClass_1 ?_
  refine V.gI hc gI_X9_47 rfl dX9_readClass_4 ?_
  refine V.bipush hc dX9_readClass_7 (by decide) ?_
  obtain ⟨g1, hw⟩ := hw
  refine V.icmp_lt hc (tgt := 14) dX9_readClass_9 (by decide) g1 (by omega) (fun c2 => ?_) (fun c2 => ?_)
  · replace hw := hw.1 c2
    refine V.bipush hc dX9_readClass_14 (by decide) ?_
    refine V.istore_n hc dX9_readClass_16 rfl rfl (lo' := [(19, o), (0, 12), (1, 0)]) rfl ?_
    refine V.aload_n (t := 9) hc dX9_readClass_17 rfl rfl ?_
    refine V.callVV hc (qX9_takeToken G l _ _ _ hw) mo_X9_takeToken ml_X9_40 (by rfl) rfl rfl (as := []) rfl rfl rfl rfl rfl ⟨Nat.zero_le _, Nat.zero_le _⟩ dX9_readClass_18 (fun h3 hw => ?_)
    refine V.aload_n (t := 9) hc dX9_readClass_21 rfl rfl ?_
    refine V.gI hc gI_X9_21 rfl dX9_readClass_22 ?_
    refine V.bipush hc dX9_readClass_25 (by decide) ?_
    obtain ⟨g4, hw⟩ := hw
    refine V.icmp_ne hc (tgt := 69) dX9_readClass_27 (by decide) g4 (by omega) (fun c5 => ?_) (fun c5 => ?_)
    · replace hw := hw.1 c5
      refine V.aload_n (t := 9) hc dX9_readClass_69 rfl rfl ?_
      refine V.gR hc gR_X9_31 (i' := 2) rfl dX9_readClass_70 ?_
      refine V.iload_n hc dX9_readClass_73 rfl rfl ?_
      refine V.callVV hc (qX8_addClass G l _ _ _ _ hw) mo_X8_addClass ml_X9_65 (by rfl) rfl rfl (as := [(0, 12)]) rfl rfl rfl rfl rfl ⟨Nat.zero_le _, Nat.zero_le _⟩ dX9_readClass_74 (fun h6 hw => ?_)
      refine V.iconst hc dX9_readClass_77 ?_
      exact V.iret hc hr dX9_readClass_78 hw
    · replace hw := hw.2 c5
      refine V.aload_n (t := 9) hc dX9_readClass_30 rfl rfl ?_
      refine V.iconst hc dX9_readClass_31 ?_
      refine V.bipush hc dX9_readClass_32 (by decide) ?_
      refine V.callVI hc (qX9_readNumber G l _ _ _ _ _ hw) mo_X9_readNumber ml_X9_57 (by rfl) rfl rfl (as := [(0, 0), (0, 11)]) rfl rfl rfl rfl rfl ⟨Nat.zero_le _, Nat.zero_le _⟩ dX9_readClass_34 (fun x8 h7 hw => ?_)
      refine V.istore_n hc dX9_readClass_37 rfl rfl (lo' := [(19, o), (0, 12), (0, x8)]) rfl ?_
      refine V.iload_n hc dX9_readClass_38 rfl rfl ?_
      obtain ⟨g9, hw⟩ := hw
      refine V.if_eq hc (tgt := 44) dX9_readClass_39 (by decide) g9 (fun c10 => ?_) (fun c10 => ?_)
      · replace hw := hw.1 c10
        refine V.aload_n (t := 9) hc dX9_readClass_44 rfl rfl ?_
        refine V.gR hc gR_X9_31 (i' := 2) rfl dX9_readClass_45 ?_
        refine V.aload_n (t := 9) hc dX9_readClass_48 rfl rfl ?_
        refine V.gI hc gI_X9_24 rfl dX9_readClass_49 ?_
        refine V.callVI hc (qX8_mayHoldClass G l _ _ _ _ hw) mo_X8_mayHoldClass ml_X9_61 (by rfl) rfl rfl (as := [(0, h7 9 o 6)]) rfl rfl rfl rfl rfl ⟨Nat.zero_le _, Nat.zero_le _⟩ dX9_readClass_52 (fun x12 h11 hw => ?_)
        obtain ⟨g13, hw⟩ := hw
        refine V.if_ne hc (tgt := 60) dX9_readClass_55 (by decide) g13 (fun c14 => ?_) (fun c14 => ?_)
        · replace hw := hw.1 c14
          refine V.aload_n (t := 9) hc dX9_readClass_60 rfl rfl ?_
          refine V.gI hc gI_X9_24 rfl dX9_readClass_61 ?_
          refine V.istore_n hc dX9_readClass_64 rfl rfl (lo' := [(19, o), (0, h11 9 o 6), (0, x8)]) rfl ?_
          refine V.aload_n (t := 9) hc dX9_readClass_65 rfl rfl ?_
          refine V.callVV hc (qX9_takeToken G l _ _ _ hw) mo_X9_takeToken ml_X9_40 (by rfl) rfl rfl (as := []) rfl rfl rfl rfl rfl ⟨Nat.zero_le _, Nat.zero_le _⟩ dX9_readClass_66 (fun h15 hw => ?_)
          refine V.aload_n (t := 9) hc dX9_readClass_69 rfl rfl ?_
          refine V.gR hc gR_X9_31 (i' := 2) rfl dX9_readClass_70 ?_
          refine V.iload_n hc dX9_readClass_73 rfl rfl ?_
          refine V.callVV hc (qX8_addClass G l _ _ _ _ hw) mo_X8_addClass ml_X9_65 (by rfl) rfl rfl (as := [(0, h11 9 o 6)]) rfl rfl rfl rfl rfl ⟨Nat.zero_le _, Nat.zero_le _⟩ dX9_readClass_74 (fun h16 hw => ?_)
          refine V.iconst hc dX9_readClass_77 ?_
          exact V.iret hc hr dX9_readClass_78 hw
        · replace hw := hw.2 c14
          refine V.iconst hc dX9_readClass_58 ?_
          exact V.iret hc hr dX9_readClass_59 hw
      · replace hw := hw.2 c10
        refine V.iload_n hc dX9_readClass_42 rfl rfl ?_
        exact V.iret hc hr dX9_readClass_43 hw
  · replace hw := hw.2 c2
    refine V.iconst hc dX9_readClass_12 ?_
    exact V.iret hc hr dX9_readClass_13 hw
theorem tX9_readCurve_43 {G : GG} {p : Program} {l : Launch} {e : Jvm.Env} {s : State} {m : MethodId} {args : Array Value} {below : List Frame} {meth : Method} {c : Code} {P : Int → HP → Prop} (hc : VC G p (rmD 9 0) s m args meth c RX9 cX9_readCurve 5 9) (hr : meth.sig.returnType = some .int) {o : Int} {a1 : Int} {l2 : Int} {l3 : Int} {l4 : Int} {h : HP} (hw : wX9_readCurve_43 o a1 l2 l3 l4 P h) : V G p l e (rmD 9 0) s m args below meth c (MQ below (QI G P) args s 0 0 (va_Aof G)) 5 43 [(19, o), (0, a1), (0, l2), (0, l3), (0, l4)] [] h 0 := by
  refine V.iload_n hc dX9_readCurve_43 rfl rfl ?_
  obtain ⟨g7, hw⟩ := hw
  refine V.if_ne hc (tgt := 65) dX9_readCurve_44 (by decide) g7 (fun c8 => ?_) (fun c8 => ?_)
  · replace hw := hw.1 c8
    refine V.iload_n hc dX9_readCurve_65 rfl rfl ?_
    exact V.iret hc hr dX9_readCurve_66 hw
  · replace hw := hw.2 c8
    refine V.aload_n (t := 9) hc dX9_readCurve_47 rfl rfl ?_
    refine V.gR hc gR_X9_31 (i' := 2) rfl dX9_readCurve_48 ?_
    refine V.gR hc gR_X9_74 (i' := 2) rfl dX9_readCurve_51 ?_
    refine V.iload_n hc dX9_readCurve_54 rfl rfl ?_
    refine V.iload_n hc dX9_readCurve_55 rfl rfl ?_
    refine V.iload hc dX9_readCurve_56 rfl ?_
    refine V.aload_n (t := 9) hc dX9_readCurve_58 rfl rfl ?_
    refine V.gI hc gI_X9_24 rfl dX9_readCurve_59 ?_
    refine V.callVV hc (qX1_put G l _ _ _ _ _ _ _ hw) mo_X1_put ml_X9_78 (by rfl) rfl rfl (as := [(0, a1), (0, l3), (0, l4), (0, h 9 o 6)]) rfl rfl rfl rfl rfl ⟨Nat.zero_le _, Nat.zero_le _⟩ dX9_readCurve_62 (fun h9 hw => ?_)
    refine V.iload_n hc dX9_readCurve_65 rfl rfl ?_
    exact V.iret hc hr dX9_readCurve_66 hw
theorem tX9_readCurve_25 {G : GG} {p : Program} {l : Launch} {e : Jvm.Env} {s : State} {m : MethodId} {args : Array Value} {below : List Frame} {meth : Method} {c : Code} {P : Int → HP → Prop} (hc : VC G p (rmD 9 0) s m args meth c RX9 cX9_readCurve 5 9) (hr : meth.sig.returnType = some .int) {o : Int} {a1 : Int} {l2 : Int} {l3 : Int} {h : HP} (hw : wX9_readCurve_25 o a1 l2 l3 P h) : V G p l e (rmD 9 0) s m args below meth c (MQ below (QI G P) args s 0 0 (va_Aof G)) 5 25 [(19, o), (0, a1), (0, l2), (0, l3), (1, 0)] [] h 0 := by
  refine V.aload_n (t := 9) hc dX9_readCurve_25 rfl rfl ?_
  refine V.gI hc gI_X9_24 rfl dX9_readCurve_26 ?_
  refine V.istore hc dX9_readCurve_29 rfl (lo' := [(19, o), (0, a1), (0, l2), (0, l3), (0, h 9 o 6)]) rfl ?_
  refine V.iload_n hc dX9_readCurve_31 rfl rfl ?_
  obtain ⟨g5, hw⟩ := hw
  refine V.if_ne hc (tgt := 43) dX9_readCurve_32 (by decide) g5 (fun c6 => ?_) (fun c6 => ?_)
  · replace hw := hw.1 c6
    exact tX9_readCurve_43 hc hr  hw
  · replace hw := hw.2 c6
    refine V.aload_n (t := 9) hc dX9_readCurve_35 rfl rfl ?_
    refine V.iconst hc dX9_readCurve_36 ?_
    refine V.bipush hc dX9_readCurve_37 (by decide) ?_
    refine V.callVI hc (qX9_readNumber G l _ _ _ _ _ hw) mo_X9_readNumber ml_X9_57 (by rfl) rfl rfl (as := [(0, 1), (0, 100)]) rfl rfl rfl rfl rfl ⟨Nat.zero_le _, Nat.zero_le _⟩ dX9_readCurve_39 (fun x11 h10 hw => ?_)
    refine V.istore_n hc dX9_readCurve_42 rfl rfl (lo' := [(19, o), (0, a1), (0, x11), (0, l3), (0, h 9 o 6)]) rfl ?_
    exact tX9_readCurve_43 hc hr  hw
theorem qX9_readCurve (G : GG) (l : Launch) (o : Int) (a1 : Int) (h : HP) (P : Int → HP → Prop) (hw : wX9_readCurve o a1 h P) : CnI l G yX9_readCurve cX9_readCurve 5 (some .int) 9 [(19, o), (0, a1)] h P := by
  refine CnI.of (lo := [(19, o), (0, a1), (1, 0), (1, 0), (1, 0)]) (by decide) rfl rfl rfl ?_
  intro p e s m args below meth c hc hr
  have hc : VC G p (rmD 9 0) s m args meth c RX9 cX9_readCurve 5 9 := hc
  refine V.aload_n (t := 9) hc dX9_readCurve_0 rfl rfl ?_
  refine V.iconst hc dX9_readCurve_1 ?_
  refine V.bipush hc dX9_readCurve_2 (by decide) ?_
  refine V.callVI hc (qX9_readNumber G l _ _ _ _ _ hw) mo_X9_readNumber ml_X9_57 (by rfl) rfl rfl (as := [(0, 0), (0, 100)]) rfl rfl rfl rfl rfl ⟨Nat.zero_le _, Nat.zero_le _⟩ dX9_readCurve_4 (fun x2 h1 hw => ?_)
  refine V.istore_n hc dX9_readCurve_7 rfl rfl (lo' := [(19, o), (0, a1), (0, x2), (1, 0), (1, 0)]) rfl ?_
  refine V.aload_n (t := 9) hc dX9_readCurve_8 rfl rfl ?_
  refine V.gI hc gI_X9_24 rfl dX9_readCurve_9 ?_
  refine V.istore_n hc dX9_readCurve_12 rfl rfl (lo' := [(19, o), (0, a1), (0, x2), (0, h1 9 o 6), (1, 0)]) rfl ?_
  refine V.iload_n hc dX9_readCurve_13 rfl rfl ?_
  obtain ⟨g3, hw⟩ := hw
  refine V.if_ne hc (tgt := 25) dX9_readCurve_14 (by decide) g3 (fun c4 => ?_) (fun c4 => ?_)
  · replace hw := hw.1 c4
    exact tX9_readCurve_25 hc hr  hw
  · replace hw := hw.2 c4
    refine V.aload_n (t := 9) hc dX9_readCurve_17 rfl rfl ?_
    refine V.iconst hc dX9_readCurve_18 ?_
    refine V.bipush hc dX9_readCurve_19 (by decide) ?_
    refine V.callVI hc (qX9_readNumber G l _ _ _ _ _ hw) mo_X9_readNumber ml_X9_57 (by rfl) rfl rfl (as := [(0, 0), (0, 30)]) rfl rfl rfl rfl rfl ⟨Nat.zero_le _, Nat.zero_le _⟩ dX9_readCurve_21 (fun x13 h12 hw => ?_)
    refine V.istore_n hc dX9_readCurve_24 rfl rfl (lo' := [(19, o), (0, a1), (0, x13), (0, h1 9 o 6), (1, 0)]) rfl ?_
    exact tX9_readCurve_25 hc hr  hw
theorem tX9_readCurves_4 {G : GG} {p : Program} {l : Launch} {e : Jvm.Env} {s : State} {m : MethodId} {args : Array Value} {below : List Frame} {meth : Method} {c : Code} {P : Int → HP → Prop} (hc : VC G p (rmD 10 0) s m args meth c RX9 cX9_readCurves 6 10) (hr : meth.sig.returnType = some .int) {o : Int} {a1 : Int} {K79 : HP → Prop} {K31 : HP → Prop} {K42 : HP → Prop} {K66 : Int → HP → Prop} (hK79 : ∀  (h : HP), K79  h → V G p l e (rmD 10 0) s m args below meth c (MQ below (QI G P) args s 0 0 (va_Aof G)) 6 79 [(1, 0), (1, 0), (1, 0), (1, 0), (1, 0), (1, 0)] [] h 0) (hK31 : ∀  (h : HP), K31  h → V G p l e (rmD 10 0) s m args below meth c (MQ below (QI G P) args s 0 0 (va_Aof G)) 6 31 [(1, 0), (1, 0), (1, 0), (1, 0), (1, 0), (1, 0)] [] h 0) (hK42 : ∀  (h : HP), K42  h → V G p l e (rmD 10 0) s m args below meth c (MQ below (QI G P) args s 0 0 (va_Aof G)) 6 42 [(1, 0), (1, 0), (1, 0), (1, 0), (1, 0), (1, 0)] [] h 0) (hK66 : ∀ (x5 : Int) (h : HP), K66 x5 h → V G p l e (rmD 10 0) s m args below meth c (MQ below (QI G P) args s 0 0 (va_Aof G)) 6 66 [(1, 0), (1, 0), (1, 0), (1, 0), (1, 0), (0, x5)] [] h 0) : ∀ (f : Nat) (l2 : Int) (l3 : Int) (h : HP), wX9_readCurves_4 o a1 K79 K31 K42 K66 f l2 l3 h → V G p l e (rmD 10 0) s m args below meth c (MQ below (QI G P) args s 0 0 (va_Aof G)) 6 4 [(19, o), (0, a1), (0, l2), (0, l3), (1, 0), (1, 0)] [] h 0 := by
  intro f
  induction f with
  | zero =>
    intro l2 l3 h hw
    exact hw.elim
  | succ f ih =>
    intro l2 l3 h hw
    refine V.iload_n hc dX9_readCurves_4 rfl rfl ?_
    refine V.iconst hc dX9_readCurves_5 ?_
    obtain ⟨g1, hw⟩ := hw
    refine V.icmp_gt hc (tgt := 79) dX9_readCurves_6 (by decide) g1 (by omega) (fun c2 => ?_) (fun c2 => ?_)
    · replace hw := hw.1 c2
      refine V.drop (lo' := [(1, 0), (1, 0), (1, 0), (1, 0), (1, 0), (1, 0)]) ⟨Or.inl rfl, Or.inl rfl, Or.inl rfl, Or.inl rfl, Or.inr rfl, Or.inr rfl, trivial⟩ ?_
      exact hK79 _ hw
    · replace hw := hw.2 c2
      refine V.aload_n (t := 9) hc dX9_readCurves_9 rfl rfl ?_
      refine V.gI hc gI_X9_21 rfl dX9_readCurves_10 ?_
      refine V.iconst hc dX9_readCurves_13 ?_
      obtain ⟨g3, hw⟩ := hw
      refine V.icmp_eq hc (tgt := 79) dX9_readCurves_14 (by decide) g3 (by omega) (fun c4 => ?_) (fun c4 => ?_)
      · replace hw := hw.1 c4
        refine V.drop (lo' := [(1, 0), (1, 0), (1, 0), (1, 0), (1, 0), (1, 0)]) ⟨Or.inl rfl, Or.inl rfl, Or.inl rfl, Or.inl rfl, Or.inr rfl, Or.inr rfl, trivial⟩ ?_
        exact hK79 _ hw
      · replace hw := hw.2 c4
        refine V.aload_n (t := 9) hc dX9_readCurves_17 rfl rfl ?_
        refine V.gI hc gI_X9_21 rfl dX9_readCurves_18 ?_
        refine V.bipush hc dX9_readCurves_21 (by decide) ?_
        refine V.isub hc dX9_readCurves_23 ?_
        refine V.istore hc dX9_readCurves_24 rfl (lo' := [(19, o), (0, a1), (0, l2), (0, l3), (0, (h 9 o 5) - 7), (1, 0)]) rfl ?_
        refine V.iload hc dX9_readCurves_26 rfl ?_
        obtain ⟨g5, hw⟩ := hw
        refine V.if_ge hc (tgt := 33) dX9_readCurves_28 (by decide) g5 (fun c6 => ?_) (fun c6 => ?_)
        · replace hw := hw.1 c6
          refine V.iload_n hc dX9_readCurves_33 rfl rfl ?_
          refine V.iload hc dX9_readCurves_34 rfl ?_
          refine V.ishr hc dX9_readCurves_36 ?_
          refine V.iconst hc dX9_readCurves_37 ?_
          refine V.iand hc dX9_readCurves_38 ?_
          obtain ⟨g7, hw⟩ := hw
          refine V.if_eq hc (tgt := 44) dX9_readCurves_39 (by decide) g7 (fun c8 => ?_) (fun c8 => ?_)
          · replace hw := hw.1 c8
            refine V.iload_n hc dX9_readCurves_44 rfl rfl ?_
            refine V.iconst hc dX9_readCurves_45 ?_
            refine V.iload hc dX9_readCurves_46 rfl ?_
            refine V.ishl hc dX9_readCurves_48 ?_
            refine V.ior hc dX9_readCurves_49 ?_
            refine V.istore_n hc dX9_readCurves_50 rfl rfl (lo' := [(19, o), (0, a1), (0, bOr l2 (bShl 1 ((h 9 o 5) - 7))), (0, l3), (0, (h 9 o 5) - 7), (1, 0)]) rfl ?_
            refine V.aload_n (t := 9) hc dX9_readCurves_51 rfl rfl ?_
            refine V.iload_n hc dX9_readCurves_52 rfl rfl ?_
            refine V.iload hc dX9_readCurves_53 rfl ?_
            refine V.iadd hc dX9_readCurves_55 ?_
            refine V.callVI hc (qX9_readCurve G l _ _ _ _ hw) mo_X9_readCurve ml_X9_69 (by rfl) rfl rfl (as := [(0, a1 + ((h 9 o 5) - 7))]) rfl rfl rfl rfl rfl ⟨Nat.zero_le _, Nat.zero_le _⟩ dX9_readCurves_56 (fun x10 h9 hw => ?_)
            refine V.istore hc dX9_readCurves_59 rfl (lo' := [(19, o), (0, a1), (0, bOr l2 (bShl 1 ((h 9 o 5) - 7))), (0, l3), (0, (h 9 o 5) - 7), (0, x10)]) rfl ?_
            refine V.iload hc dX9_readCurves_61 rfl ?_
            obtain ⟨g11, hw⟩ := hw
            refine V.if_eq hc (tgt := 69) dX9_readCurves_63 (by decide) g11 (fun c12 => ?_) (fun c12 => ?_)
            · replace hw := hw.1 c12
              refine V.aload_n (t := 9) hc dX9_readCurves_69 rfl rfl ?_
              refine V.callVV hc (qX9_takeToken G l _ _ _ hw) mo_X9_takeToken ml_X9_40 (by rfl) rfl rfl (as := []) rfl rfl rfl rfl rfl ⟨Nat.zero_le _, Nat.zero_le _⟩ dX9_readCurves_70 (fun h13 hw => ?_)
              refine V.iinc hc dX9_readCurves_73 rfl rfl (lo' := [(19, o), (0, a1), (0, bOr l2 (bShl 1 ((h 9 o 5) - 7))), (0, l3 + 1), (0, (h 9 o 5) - 7), (0, x10)]) rfl ?_
              refine V.goto hc (tgt := 4) dX9_readCurves_76 (by decide) ?_
              refine V.drop (lo' := [(19, o), (0, a1), (0, bOr l2 (bShl 1 ((h 9 o 5) - 7))), (0, l3 + 1), (1, 0), (1, 0)]) ⟨Or.inr rfl, Or.inr rfl, Or.inr rfl, Or.inr rfl, Or.inl rfl, Or.inl rfl, trivial⟩ ?_
              exact ih _ _ _ hw
            · replace hw := hw.2 c12
              refine V.drop (lo' := [(1, 0), (1, 0), (1, 0), (1, 0), (1, 0), (0, x10)]) ⟨Or.inl rfl, Or.inl rfl, Or.inl rfl, Or.inl rfl, Or.inl rfl, Or.inr rfl, trivial⟩ ?_
              exact hK66 _ _ hw
          · replace hw := hw.2 c8
            refine V.drop (lo' := [(1, 0), (1, 0), (1, 0), (1, 0), (1, 0), (1, 0)]) ⟨Or.inl rfl, Or.inl rfl, Or.inl rfl, Or.inl rfl, Or.inl rfl, Or.inr rfl, trivial⟩ ?_
            exact hK42 _ hw
        · replace hw := hw.2 c6
          refine V.drop (lo' := [(1, 0), (1, 0), (1, 0), (1, 0), (1, 0), (1, 0)]) ⟨Or.inl rfl, Or.inl rfl, Or.inl rfl, Or.inl rfl, Or.inl rfl, Or.inr rfl, trivial⟩ ?_
          exact hK31 _ hw
theorem qX9_readCurves (G : GG) (l : Launch) (o : Int) (a1 : Int) (h : HP) (P : Int → HP → Prop) (hw : wX9_readCurves o a1 h P) : CnI l G yX9_readCurves cX9_readCurves 6 (some .int) 10 [(19, o), (0, a1)] h P := by
  refine CnI.of (lo := [(19, o), (0, a1), (1, 0), (1, 0), (1, 0), (1, 0)]) (by decide) rfl rfl rfl ?_
  intro p e s m args below meth c hc hr
  have hc : VC G p (rmD 10 0) s m args meth c RX9 cX9_readCurves 6 10 := hc
  refine V.iconst hc dX9_readCurves_0 ?_
  refine V.istore_n hc dX9_readCurves_1 rfl rfl (lo' := [(19, o), (0, a1), (0, 0), (1, 0), (1, 0), (1, 0)]) rfl ?_
  refine V.iconst hc dX9_readCurves_2 ?_
  refine V.istore_n hc dX9_readCurves_3 rfl rfl (lo' := [(19, o), (0, a1), (0, 0), (0, 0), (1, 0), (1, 0)]) rfl ?_
  obtain ⟨f14, hw⟩ := hw
  refine tX9_readCurves_4 hc hr ?_ ?_ ?_ ?_ f14 _ _ _ hw
  · intro h15 hw
    refine V.iconst hc dX9_readCurves_79 ?_
    exact V.iret hc hr dX9_readCurves_80 hw
  · intro h16 hw
    refine V.iconst hc dX9_readCurves_31 ?_
    exact V.iret hc hr dX9_readCurves_32 hw
  · intro h17 hw
    refine V.iconst hc dX9_readCurves_42 ?_
    exact V.iret hc hr dX9_readCurves_43 hw
  · intro l18 h19 hw
    refine V.iload hc dX9_readCurves_66 rfl ?_
    exact V.iret hc hr dX9_readCurves_68 hw
theorem tX9_readFlow_93 {G : GG} {p : Program} {l : Launch} {e : Jvm.Env} {s : State} {m : MethodId} {args : Array Value} {below : List Frame} {meth : Method} {c : Code} {P : Int → HP → Prop} (hc : VC G p (rmD 9 0) s m args meth c RX9 cX9_readFlow 5 9) (hr : meth.sig.returnType = some .int) {o : Int} {l1 : Int} {l2 : Int} {l3 : Int} {l4 : Int} {h : HP} (hw : wX9_readFlow_93 o l1 l2 l3 l4 P h) : V G p l e (rmD 9 0) s m args below meth c (MQ below (QI G P) args s 0 0 (va_Aof G)) 5 93 [(19, o), (0, l1), (0, l2), (0, l3), (0, l4)] [] h 0 := by
  refine V.iload_n hc dX9_readFlow_93 rfl rfl ?_
  obtain ⟨g13, hw⟩ := hw
  refine V.if_eq hc (tgt := 99) dX9_readFlow_94 (by decide) g13 (fun c14 => ?_) (fun c14 => ?_)
  · replace hw := hw.1 c14
    refine V.aload_n (t := 9) hc dX9_readFlow_99 rfl rfl ?_
    refine V.gR hc gR_X9_31 (i' := 2) rfl dX9_readFlow_100 ?_
    refine V.iload_n hc dX9_readFlow_103 rfl rfl ?_
    refine V.iload_n hc dX9_readFlow_104 rfl rfl ?_
    refine V.iload hc dX9_readFlow_105 rfl ?_
    refine V.aload_n (t := 9) hc dX9_readFlow_107 rfl rfl ?_
    refine V.gI hc gI_X9_24 rfl dX9_readFlow_108 ?_
    refine V.callVV hc (qX8_addFlow G l _ _ _ _ _ _ _ hw) mo_X8_addFlow ml_X9_88 (by rfl) rfl rfl (as := [(0, l2), (0, l3), (0, l4), (0, h 9 o 6)]) rfl rfl rfl rfl rfl ⟨Nat.zero_le _, Nat.zero_le _⟩ dX9_readFlow_111 (fun h15 hw => ?_)
    refine V.aload_n (t := 9) hc dX9_readFlow_114 rfl rfl ?_
    refine V.callVV hc (qX9_takeToken G l _ _ _ hw) mo_X9_takeToken ml_X9_40 (by rfl) rfl rfl (as := []) rfl rfl rfl rfl rfl ⟨Nat.zero_le _, Nat.zero_le _⟩ dX9_readFlow_115 (fun h16 hw => ?_)
    refine V.aload_n (t := 9) hc dX9_readFlow_118 rfl rfl ?_
    refine V.gI hc gI_X9_21 rfl dX9_readFlow_119 ?_
    refine V.iconst hc dX9_readFlow_122 ?_
    obtain ⟨q19, hw⟩ := hw
    have kJ20 : ∀ t18 : Int, ((¬ h16 9 o 5 = 3 → t18 = 1) ∧ (h16 9 o 5 = 3 → t18 = 0)) → V G p l e (rmD 9 0) s m args below meth c (MQ below (QI G P) args s 0 0 (va_Aof G)) 5 131 [(1, 0), (1, 0), (1, 0), (1, 0), (1, 0)] [(0, t18)] h16 0 := by
      intro t18 he
      replace hw := hw t18 he
      clear he
      exact V.iret hc hr dX9_readFlow_131 hw
    have g17 := q19
    refine V.icmp_ne hc (tgt := 130) dX9_readFlow_123 (by decide) g17 (by omega) (fun c21 => ?_) (fun c21 => ?_)
    · refine V.iconst hc dX9_readFlow_130 ?_
      refine V.drop (lo' := [(1, 0), (1, 0), (1, 0), (1, 0), (1, 0)]) ⟨Or.inl rfl, Or.inl rfl, Or.inl rfl, Or.inl rfl, Or.inl rfl, trivial⟩ ?_
      exact kJ20 _ ⟨fun _ => rfl, (fun q => absurd q c21)⟩
    · refine V.iconst hc dX9_readFlow_126 ?_
      refine V.goto hc (tgt := 131) dX9_readFlow_127 (by decide) ?_
      refine V.drop (lo' := [(1, 0), (1, 0), (1, 0), (1, 0), (1, 0)]) ⟨Or.inl rfl, Or.inl rfl, Or.inl rfl, Or.inl rfl, Or.inl rfl, trivial⟩ ?_
      exact kJ20 _ ⟨(fun q => absurd c21 q), fun _ => rfl⟩
  · replace hw := hw.2 c14
    refine V.iload_n hc dX9_readFlow_97 rfl rfl ?_
    exact V.iret hc hr dX9_readFlow_98 hw
theorem tX9_readFlow_75 {G : GG} {p : Program} {l : Launch} {e : Jvm.Env} {s : State} {m : MethodId} {args : Array Value} {below : List Frame} {meth : Method} {c : Code} {P : Int → HP → Prop} (hc : VC G p (rmD 9 0) s m args meth c RX9 cX9_readFlow 5 9) (hr : meth.sig.returnType = some .int) {o : Int} {l1 : Int} {l2 : Int} {l3 : Int} {h : HP} (hw : wX9_readFlow_75 o l1 l2 l3 P h) : V G p l e (rmD 9 0) s m args below meth c (MQ below (QI G P) args s 0 0 (va_Aof G)) 5 75 [(19, o), (0, l1), (0, l2), (0, l3), (1, 0)] [] h 0 := by
  refine V.aload_n (t := 9) hc dX9_readFlow_75 rfl rfl ?_
  refine V.gI hc gI_X9_24 rfl dX9_readFlow_76 ?_
  refine V.istore hc dX9_readFlow_79 rfl (lo' := [(19, o), (0, l1), (0, l2), (0, l3), (0, h 9 o 6)]) rfl ?_
  refine V.iload_n hc dX9_readFlow_81 rfl rfl ?_
  obtain ⟨g11, hw⟩ := hw
  refine V.if_ne hc (tgt := 93) dX9_readFlow_82 (by decide) g11 (fun c12 => ?_) (fun c12 => ?_)
  · replace hw := hw.1 c12
    exact tX9_readFlow_93 hc hr  hw
  · replace hw := hw.2 c12
    refine V.aload_n (t := 9) hc dX9_readFlow_85 rfl rfl ?_
    refine V.iconst hc dX9_readFlow_86 ?_
    refine V.bipush hc dX9_readFlow_87 (by decide) ?_
    refine V.callVI hc (qX9_readNumber G l _ _ _ _ _ hw) mo_X9_readNumber ml_X9_57 (by rfl) rfl rfl (as := [(0, 1), (0, 64)]) rfl rfl rfl rfl rfl ⟨Nat.zero_le _, Nat.zero_le _⟩ dX9_readFlow_89 (fun x23 h22 hw => ?_)
    refine V.istore_n hc dX9_readFlow_92 rfl rfl (lo' := [(19, o), (0, x23), (0, l2), (0, l3), (0, h 9 o 6)]) rfl ?_
    exact tX9_readFlow_93 hc hr  hw
theorem tX9_readFlow_57 {G : GG} {p : Program} {l : Launch} {e : Jvm.Env} {s : State} {m : MethodId} {args : Array Value} {below : List Frame} {meth : Method} {c : Code} {P : Int → HP → Prop} (hc : VC G p (rmD 9 0) s m args meth c RX9 cX9_readFlow 5 9) (hr : meth.sig.returnType = some .int) {o : Int} {l1 : Int} {l2 : Int} {h : HP} (hw : wX9_readFlow_57 o l1 l2 P h) : V G p l e (rmD 9 0) s m args below meth c (MQ below (QI G P) args s 0 0 (va_Aof G)) 5 57 [(19, o), (0, l1), (0, l2), (1, 0), (1, 0)] [] h 0 := by
  refine V.aload_n (t := 9) hc dX9_readFlow_57 rfl rfl ?_
  refine V.gI hc gI_X9_24 rfl dX9_readFlow_58 ?_
  refine V.istore_n hc dX9_readFlow_61 rfl rfl (lo' := [(19, o), (0, l1), (0, l2), (0, h 9 o 6), (1, 0)]) rfl ?_
  refine V.iload_n hc dX9_readFlow_62 rfl rfl ?_
  obtain ⟨g9, hw⟩ := hw
  refine V.if_ne hc (tgt := 75) dX9_readFlow_63 (by decide) g9 (fun c10 => ?_) (fun c10 => ?_)
  · replace hw := hw.1 c10
    exact tX9_readFlow_75 hc hr  hw
  · replace hw := hw.2 c10
    refine V.aload_n (t := 9) hc dX9_readFlow_66 rfl rfl ?_
    refine V.iconst hc dX9_readFlow_67 ?_
    refine V.sipush hc dX9_readFlow_68 (by decide) ?_
    refine V.callVI hc (qX9_readNumber G l _ _ _ _ _ hw) mo_X9_readNumber ml_X9_57 (by rfl) rfl rfl (as := [(0, 0), (0, 199)]) rfl rfl rfl rfl rfl ⟨Nat.zero_le _, Nat.zero_le _⟩ dX9_readFlow_71 (fun x25 h24 hw => ?_)
    refine V.istore_n hc dX9_readFlow_74 rfl rfl (lo' := [(19, o), (0, x25), (0, l2), (0, h 9 o 6), (1, 0)]) rfl ?_
    exact tX9_readFlow_75 hc hr  hw
theorem tX9_readFlow_44 {G : GG} {p : Program} {l : Launch} {e : Jvm.Env} {s : State} {m : MethodId} {args : Array Value} {below : List Frame} {meth : Method} {c : Code} {P : Int → HP → Prop} (hc : VC G p (rmD 9 0) s m args meth c RX9 cX9_readFlow 5 9) (hr : meth.sig.returnType = some .int) {o : Int} {l1 : Int} {l2 : Int} {h : HP} (hw : wX9_readFlow_44 o l1 l2 P h) : V G p l e (rmD 9 0) s m args below meth c (MQ below (QI G P) args s 0 0 (va_Aof G)) 5 44 [(19, o), (0, l1), (0, l2), (1, 0), (1, 0)] [] h 0 := by
  refine V.iload_n hc dX9_readFlow_44 rfl rfl ?_
  obtain ⟨g7, hw⟩ := hw
  refine V.if_ne hc (tgt := 57) dX9_readFlow_45 (by decide) g7 (fun c8 => ?_) (fun c8 => ?_)
  · replace hw := hw.1 c8
    exact tX9_readFlow_57 hc hr  hw
  · replace hw := hw.2 c8
    refine V.aload_n (t := 9) hc dX9_readFlow_48 rfl rfl ?_
    refine V.iconst hc dX9_readFlow_49 ?_
    refine V.sipush hc dX9_readFlow_50 (by decide) ?_
    refine V.callVI hc (qX9_readNumber G l _ _ _ _ _ hw) mo_X9_readNumber ml_X9_57 (by rfl) rfl rfl (as := [(0, 1), (0, 200)]) rfl rfl rfl rfl rfl ⟨Nat.zero_le _, Nat.zero_le _⟩ dX9_readFlow_53 (fun x27 h26 hw => ?_)
    refine V.istore_n hc dX9_readFlow_56 rfl rfl (lo' := [(19, o), (0, x27), (0, l2), (1, 0), (1, 0)]) rfl ?_
    exact tX9_readFlow_57 hc hr  hw
theorem qX9_readFlow (G : GG) (l : Launch) (o : Int) (h : HP) (P : Int → HP → Prop) (hw : wX9_readFlow o h P) : CnI l G yX9_readFlow cX9_readFlow 5 (some .int) 9 [(19, o)] h P := by
  refine CnI.of (lo := [(19, o), (1, 0), (1, 0), (1, 0), (1, 0)]) (by decide) rfl rfl rfl ?_
  intro p e s m args below meth c hc hr
  have hc : VC G p (rmD 9 0) s m args meth c RX9 cX9_readFlow 5 9 := hc
  refine V.aload_n (t := 9) hc dX9_readFlow_0 rfl rfl ?_
  refine V.gR hc gR_X9_31 (i' := 2) rfl dX9_readFlow_1 ?_
  refine V.gI hc gI_X9_82 rfl dX9_readFlow_4 ?_
  refine V.bipush hc dX9_readFlow_7 (by decide) ?_
  obtain ⟨g1, hw⟩ := hw
  refine V.icmp_lt hc (tgt := 14) dX9_readFlow_9 (by decide) g1 (by omega) (fun c2 => ?_) (fun c2 => ?_)
  · replace hw := hw.1 c2
    refine V.aload_n (t := 9) hc dX9_readFlow_14 rfl rfl ?_
    refine V.iconst hc dX9_readFlow_15 ?_
    refine V.bipush hc dX9_readFlow_16 (by decide) ?_
    refine V.callVI hc (qX9_readNumber G l _ _ _ _ _ hw) mo_X9_readNumber ml_X9_57 (by rfl) rfl rfl (as := [(0, 0), (0, 11)]) rfl rfl rfl rfl rfl ⟨Nat.zero_le _, Nat.zero_le _⟩ dX9_readFlow_18 (fun x4 h3 hw => ?_)
    refine V.istore_n hc dX9_readFlow_21 rfl rfl (lo' := [(19, o), (0, x4), (1, 0), (1, 0), (1, 0)]) rfl ?_
    refine V.aload_n (t := 9) hc dX9_readFlow_22 rfl rfl ?_
    refine V.gI hc gI_X9_24 rfl dX9_readFlow_23 ?_
    refine V.istore_n hc dX9_readFlow_26 rfl rfl (lo' := [(19, o), (0, x4), (0, h3 9 o 6), (1, 0), (1, 0)]) rfl ?_
    refine V.iload_n hc dX9_readFlow_27 rfl rfl ?_
    obtain ⟨g5, hw⟩ := hw
    refine V.if_ne hc (tgt := 44) dX9_readFlow_28 (by decide) g5 (fun c6 => ?_) (fun c6 => ?_)
    · replace hw := hw.1 c6
      exact tX9_readFlow_44 hc hr  hw
    · replace hw := hw.2 c6
      refine V.aload_n (t := 9) hc dX9_readFlow_31 rfl rfl ?_
      refine V.gR hc gR_X9_31 (i' := 2) rfl dX9_readFlow_32 ?_
      refine V.iload_n hc dX9_readFlow_35 rfl rfl ?_
      refine V.callVI hc (qX8_hasLeaf G l _ _ _ _ hw) mo_X8_hasLeaf ml_X9_85 (by rfl) rfl rfl (as := [(0, h3 9 o 6)]) rfl rfl rfl rfl rfl ⟨Nat.zero_le _, Nat.zero_le _⟩ dX9_readFlow_36 (fun x29 h28 hw => ?_)
      obtain ⟨q32, hw⟩ := hw
      have kJ33 : ∀ t31 : Int, ((¬ x29 = 0 → t31 = x4) ∧ (x29 = 0 → t31 = 3)) → V G p l e (rmD 9 0) s m args below meth c (MQ below (QI G P) args s 0 0 (va_Aof G)) 5 44 [(19, o), (0, t31), (0, h3 9 o 6), (1, 0), (1, 0)] [] h28 0 := by
        intro t31 he
        replace hw := hw t31 he
        clear he
        exact tX9_readFlow_44 hc hr  hw
      have g30 := q32
      refine V.if_ne hc (tgt := 44) dX9_readFlow_39 (by decide) g30 (fun c34 => ?_) (fun c34 => ?_)
      · exact kJ33 _ ⟨fun _ => rfl, (fun q => absurd q c34)⟩
      · refine V.iconst hc dX9_readFlow_42 ?_
        refine V.istore_n hc dX9_readFlow_43 rfl rfl (lo' := [(19, o), (0, 3), (0, h3 9 o 6), (1, 0), (1, 0)]) rfl ?_
        exact kJ33 _ ⟨(fun q => absurd c34 q), fun _ => rfl⟩
  · replace hw := hw.2 c2
    refine V.iconst hc dX9_readFlow_12 ?_
    exact V.iret hc hr dX9_readFlow_13 hw
theorem tX9_read_93 {G : GG} {p : Program} {l : Launch} {e : Jvm.Env} {s : State} {m : MethodId} {args : Array Value} {below : List Frame} {meth : Method} {c : Code} {P : Int → HP → Prop} (hc : VC G p (rmD 11 0) s m args meth c RX9 cX9_read 4 11) (hr : meth.sig.returnType = some .int) {o : Int} {a1 : Int} {l2 : Int} {l3 : Int} {h : HP} {K23 : Int → HP → Prop} {K97 : Int → HP → Prop} (hK23 : ∀ (x2 : Int) (h : HP), K23 x2 h → V G p l e (rmD 11 0) s m args below meth c (MQ below (QI G P) args s 0 0 (va_Aof G)) 4 23 [(19, o), (1, 0), (0, x2), (1, 0)] [] h 0) (hK97 : ∀ (x3 : Int) (h : HP), K97 x3 h → V G p l e (rmD 11 0) s m args below meth c (MQ below (QI G P) args s 0 0 (va_Aof G)) 4 97 [(1, 0), (1, 0), (1, 0), (0, x3)] [] h 0) (hw : wX9_read_93 o a1 l2 l3 K23 K97 h) : V G p l e (rmD 11 0) s m args below meth c (MQ below (QI G P) args s 0 0 (va_Aof G)) 4 93 [(19, o), (1, 0), (0, l2), (0, l3)] [] h 0 := by
  refine V.iload_n hc dX9_read_93 rfl rfl ?_
  obtain ⟨g14, hw⟩ := hw
  refine V.if_eq hc (tgt := 99) dX9_read_94 (by decide) g14 (fun c15 => ?_) (fun c15 => ?_)
  · replace hw := hw.1 c15
    refine V.aload_n (t := 9) hc dX9_read_99 rfl rfl ?_
    refine V.callVV hc (qX9_takeToken G l _ _ _ hw) mo_X9_takeToken ml_X9_40 (by rfl) rfl rfl (as := []) rfl rfl rfl rfl rfl ⟨Nat.zero_le _, Nat.zero_le _⟩ dX9_read_100 (fun h16 hw => ?_)
    refine V.iinc hc dX9_read_103 rfl rfl (lo' := [(19, o), (1, 0), (0, l2 + 1), (0, l3)]) rfl ?_
    refine V.goto hc (tgt := 23) dX9_read_106 (by decide) ?_
    refine V.drop (lo' := [(19, o), (1, 0), (0, l2 + 1), (1, 0)]) ⟨Or.inr rfl, Or.inr rfl, Or.inr rfl, Or.inl rfl, trivial⟩ ?_
    exact hK23 _ _ hw
  · replace hw := hw.2 c15
    refine V.drop (lo' := [(1, 0), (1, 0), (1, 0), (0, l3)]) ⟨Or.inl rfl, Or.inr rfl, Or.inl rfl, Or.inr rfl, trivial⟩ ?_
    exact hK97 _ _ hw
theorem tX9_read_76 {G : GG} {p : Program} {l : Launch} {e : Jvm.Env} {s : State} {m : MethodId} {args : Array Value} {below : List Frame} {meth : Method} {c : Code} {P : Int → HP → Prop} (hc : VC G p (rmD 11 0) s m args meth c RX9 cX9_read 4 11) (hr : meth.sig.returnType = some .int) {o : Int} {a1 : Int} {l2 : Int} {s0 : Int} {h : HP} {K23 : Int → HP → Prop} {K97 : Int → HP → Prop} (hK23 : ∀ (x2 : Int) (h : HP), K23 x2 h → V G p l e (rmD 11 0) s m args below meth c (MQ below (QI G P) args s 0 0 (va_Aof G)) 4 23 [(19, o), (1, 0), (0, x2), (1, 0)] [] h 0) (hK97 : ∀ (x3 : Int) (h : HP), K97 x3 h → V G p l e (rmD 11 0) s m args below meth c (MQ below (QI G P) args s 0 0 (va_Aof G)) 4 97 [(1, 0), (1, 0), (1, 0), (0, x3)] [] h 0) (hw : wX9_read_76 o a1 l2 s0 K23 K97 h) : V G p l e (rmD 11 0) s m args below meth c (MQ below (QI G P) args s 0 0 (va_Aof G)) 4 76 [(19, o), (1, 0), (0, l2), (1, 0)] [(0, s0)] h 0 := by
  refine V.istore_n hc dX9_read_76 rfl rfl (lo' := [(19, o), (1, 0), (0, l2), (0, s0)]) rfl ?_
  refine V.goto hc (tgt := 93) dX9_read_77 (by decide) ?_
  exact tX9_read_93 hc hr (fun y2 hy hw => by exact hK23 _ _ hw) (fun y3 hy hw => by exact hK97 _ _ hw) hw
theorem tX9_read_23 {G : GG} {p : Program} {l : Launch} {e : Jvm.Env} {s : State} {m : MethodId} {args : Array Value} {below : List Frame} {meth : Method} {c : Code} {P : Int → HP → Prop} (hc : VC G p (rmD 11 0) s m args meth c RX9 cX9_read 4 11) (hr : meth.sig.returnType = some .int) {o : Int} {a1 : Int} {K109 : HP → Prop} {K97 : Int → HP → Prop} (hK109 : ∀  (h : HP), K109  h → V G p l e (rmD 11 0) s m args below meth c (MQ below (QI G P) args s 0 0 (va_Aof G)) 4 109 [(1, 0), (1, 0), (1, 0), (1, 0)] [] h 0) (hK97 : ∀ (x3 : Int) (h : HP), K97 x3 h → V G p l e (rmD 11 0) s m args below meth c (MQ below (QI G P) args s 0 0 (va_Aof G)) 4 97 [(1, 0), (1, 0), (1, 0), (0, x3)] [] h 0) : ∀ (f : Nat) (l2 : Int) (h : HP), wX9_read_23 o a1 K109 K97 f l2 h → V G p l e (rmD 11 0) s m args below meth c (MQ below (QI G P) args s 0 0 (va_Aof G)) 4 23 [(19, o), (1, 0), (0, l2), (1, 0)] [] h 0 := by
  intro f
  induction f with
  | zero =>
    intro l2 h hw
    exact hw.elim
  | succ f ih =>
    intro l2 h hw
    refine V.iload_n hc dX9_read_23 rfl rfl ?_
    refine V.aload_n (t := 9) hc dX9_read_24 rfl rfl ?_
    refine V.gI hc gI_X9_9 rfl dX9_read_25 ?_
    obtain ⟨g5, hw⟩ := hw
    obtain ⟨g6, hw⟩ := hw
    refine V.icmp_gt hc (tgt := 109) dX9_read_28 (by decide) g5 g6 (fun c7 => ?_) (fun c7 => ?_)
    · replace hw := hw.1 c7
      refine V.drop (lo' := [(1, 0), (1, 0), (1, 0), (1, 0)]) ⟨Or.inl rfl, Or.inr rfl, Or.inl rfl, Or.inr rfl, trivial⟩ ?_
      exact hK109 _ hw
    · replace hw := hw.2 c7
      refine V.aload_n (t := 9) hc dX9_read_31 rfl rfl ?_
      refine V.gI hc gI_X9_21 rfl dX9_read_32 ?_
      obtain ⟨g8, hw⟩ := hw
      refine V.if_eq hc (tgt := 109) dX9_read_35 (by decide) g8 (fun c9 => ?_) (fun c9 => ?_)
      · replace hw := hw.1 c9
        refine V.drop (lo' := [(1, 0), (1, 0), (1, 0), (1, 0)]) ⟨Or.inl rfl, Or.inr rfl, Or.inl rfl, Or.inr rfl, trivial⟩ ?_
        exact hK109 _ hw
      · replace hw := hw.2 c9
        refine V.iconst hc dX9_read_38 ?_
        refine V.istore_n hc dX9_read_39 rfl rfl (lo' := [(19, o), (1, 0), (0, l2), (0, 1)]) rfl ?_
        refine V.aload_n (t := 9) hc dX9_read_40 rfl rfl ?_
        refine V.gI hc gI_X9_21 rfl dX9_read_41 ?_
        refine V.iconst hc dX9_read_44 ?_
        obtain ⟨g10, hw⟩ := hw
        refine V.icmp_ne hc (tgt := 80) dX9_read_45 (by decide) g10 (by omega) (fun c11 => ?_) (fun c11 => ?_)
        · replace hw := hw.1 c11
          refine V.aload_n (t := 9) hc dX9_read_80 rfl rfl ?_
          refine V.gI hc gI_X9_21 rfl dX9_read_81 ?_
          refine V.iconst hc dX9_read_84 ?_
          obtain ⟨g12, hw⟩ := hw
          refine V.icmp_ne hc (tgt := 93) dX9_read_85 (by decide) g12 (by omega) (fun c13 => ?_) (fun c13 => ?_)
          · replace hw := hw.1 c13
            exact tX9_read_93 hc hr (fun y2 hy hw => by exact ih _ _ hw) (fun y3 hy hw => by exact hK97 _ _ hw) hw
          · replace hw := hw.2 c13
            refine V.aload_n (t := 9) hc dX9_read_88 rfl rfl ?_
            refine V.callVI hc (qX9_readFlow G l _ _ _ hw) mo_X9_readFlow ml_X9_54 (by rfl) rfl rfl (as := []) rfl rfl rfl rfl rfl ⟨Nat.zero_le _, Nat.zero_le _⟩ dX9_read_89 (fun x18 h17 hw => ?_)
            refine V.istore_n hc dX9_read_92 rfl rfl (lo' := [(19, o), (1, 0), (0, l2), (0, x18)]) rfl ?_
            exact tX9_read_93 hc hr (fun y2 hy hw => by exact ih _ _ hw) (fun y3 hy hw => by exact hK97 _ _ hw) hw
        · replace hw := hw.2 c11
          refine V.aload_n (t := 9) hc dX9_read_48 rfl rfl ?_
          refine V.callVI hc (qX9_readClass G l _ _ _ hw) mo_X9_readClass ml_X9_43 (by rfl) rfl rfl (as := []) rfl rfl rfl rfl rfl ⟨Nat.zero_le _, Nat.zero_le _⟩ dX9_read_49 (fun x20 h19 hw => ?_)
          refine V.istore_n hc dX9_read_52 rfl rfl (lo' := [(19, o), (1, 0), (0, l2), (0, x20)]) rfl ?_
          refine V.iload_n hc dX9_read_53 rfl rfl ?_
          obtain ⟨g21, hw⟩ := hw
          refine V.if_ne hc (tgt := 75) dX9_read_54 (by decide) g21 (fun c22 => ?_) (fun c22 => ?_)
          · replace hw := hw.1 c22
            refine V.iload_n hc dX9_read_75 rfl rfl ?_
            refine V.drop (lo' := [(19, o), (1, 0), (0, l2), (1, 0)]) ⟨Or.inr rfl, Or.inr rfl, Or.inr rfl, Or.inl rfl, trivial⟩ ?_
            exact tX9_read_76 hc hr (fun y2 hy hw => by exact ih _ _ hw) (fun y3 hy hw => by exact hK97 _ _ hw) hw
          · replace hw := hw.2 c22
            refine V.aload_n (t := 9) hc dX9_read_57 rfl rfl ?_
            refine V.aload_n (t := 9) hc dX9_read_58 rfl rfl ?_
            refine V.gR hc gR_X9_31 (i' := 2) rfl dX9_read_59 ?_
            refine V.gI hc gI_X9_47 rfl dX9_read_62 ?_
            refine V.iconst hc dX9_read_65 ?_
            refine V.isub hc dX9_read_66 ?_
            refine V.iconst hc dX9_read_67 ?_
            refine V.imul hc dX9_read_68 ?_
            refine V.callVI hc (qX9_readCurves G l _ _ _ _ hw) mo_X9_readCurves ml_X9_50 (by rfl) rfl rfl (as := [(0, ((h19 8 2 0) - 1) * 3)]) rfl rfl rfl rfl rfl ⟨Nat.zero_le _, Nat.zero_le _⟩ dX9_read_69 (fun x24 h23 hw => ?_)
            refine V.goto hc (tgt := 76) dX9_read_72 (by decide) ?_
            refine V.drop (lo' := [(19, o), (1, 0), (0, l2), (1, 0)]) ⟨Or.inr rfl, Or.inr rfl, Or.inr rfl, Or.inl rfl, trivial⟩ ?_
            exact tX9_read_76 hc hr (fun y2 hy hw => by exact ih _ _ hw) (fun y3 hy hw => by exact hK97 _ _ hw) hw
theorem qX9_read (G : GG) (l : Launch) (o : Int) (a1 : Int) (h : HP) (P : Int → HP → Prop) (hw : wX9_read o a1 h P) : CnI l G yX9_read cX9_read 4 (some .int) 11 [(19, o), (0, a1)] h P := by
  refine CnI.of (lo := [(19, o), (0, a1), (1, 0), (1, 0)]) (by decide) rfl rfl rfl ?_
  intro p e s m args below meth c hc hr
  have hc : VC G p (rmD 11 0) s m args meth c RX9 cX9_read 4 11 := hc
  refine V.aload_n (t := 9) hc dX9_read_0 rfl rfl ?_
  refine V.iload_n hc dX9_read_1 rfl rfl ?_
  refine V.pI hc pI_X9_9 rfl dX9_read_2 (fun h1 e => ?_)
  replace hw := hw h1 e
  clear e
  refine V.aload_n (t := 9) hc dX9_read_5 rfl rfl ?_
  refine V.iconst hc dX9_read_6 ?_
  refine V.pI hc pI_X9_18 rfl dX9_read_7 (fun h2 e => ?_)
  replace hw := hw h2 e
  clear e
  refine V.aload_n (t := 9) hc dX9_read_10 rfl rfl ?_
  refine V.gR hc gR_X9_31 (i' := 2) rfl dX9_read_11 ?_
  refine V.callVV hc (qX8_clear G l _ _ _ hw) mo_X8_clear ml_X9_35 (by rfl) rfl rfl (as := []) rfl rfl rfl rfl rfl ⟨Nat.zero_le _, Nat.zero_le _⟩ dX9_read_14 (fun h3 hw => ?_)
  refine V.aload_n (t := 9) hc dX9_read_17 rfl rfl ?_
  refine V.callVV hc (qX9_takeToken G l _ _ _ hw) mo_X9_takeToken ml_X9_40 (by rfl) rfl rfl (as := []) rfl rfl rfl rfl rfl ⟨Nat.zero_le _, Nat.zero_le _⟩ dX9_read_18 (fun h4 hw => ?_)
  refine V.iconst hc dX9_read_21 ?_
  refine V.istore_n hc dX9_read_22 rfl rfl (lo' := [(19, o), (0, a1), (0, 0), (1, 0)]) rfl ?_
  obtain ⟨f25, hw⟩ := hw
  refine V.drop (lo' := [(19, o), (1, 0), (0, 0), (1, 0)]) ⟨Or.inr rfl, Or.inl rfl, Or.inr rfl, Or.inr rfl, trivial⟩ ?_
  refine tX9_read_23 hc hr ?_ ?_ f25 _ _ hw
  · intro h26 hw
    refine V.iconst hc dX9_read_109 ?_
    exact V.iret hc hr dX9_read_110 hw
  · intro l27 h28 hw
    refine V.iload_n hc dX9_read_97 rfl rfl ?_
    exact V.iret hc hr dX9_read_98 hw
theorem qX10_putSign (G : GG) (l : Launch) (o : Int) (a1 : Int) (h : HP) (P : HP → Prop) (hw : wX10_putSign o a1 h P) : CnV l G yX10_putSign cX10_putSign 2 1 [(20, o), (0, a1)] h P := by
  refine CnV.of (lo := [(20, o), (0, a1)]) (by decide) rfl rfl rfl ?_
  intro p e s m args below meth c hc hr
  have hc : VC G p (rmD 1 0) s m args meth c RX10 cX10_putSign 2 1 := hc
  refine V.aload_n (t := 10) hc dX10_putSign_0 rfl rfl ?_
  refine V.gI hc gI_X10_15 rfl dX10_putSign_1 ?_
  refine V.bipush hc dX10_putSign_4 (by decide) ?_
  obtain ⟨g1, hw⟩ := hw
  refine V.icmp_ge hc (tgt := 29) dX10_putSign_6 (by decide) g1 (by omega) (fun c2 => ?_) (fun c2 => ?_)
  · replace hw := hw.1 c2
    exact V.vret hc hr dX10_putSign_29 hw
  · replace hw := hw.2 c2
    refine V.aload_n (t := 10) hc dX10_putSign_9 rfl rfl ?_
    refine V.gR hc gR_X10_11 (i' := o) rfl dX10_putSign_10 ?_
    refine V.aload_n (t := 10) hc dX10_putSign_13 rfl rfl ?_
    refine V.gI hc gI_X10_15 rfl dX10_putSign_14 ?_
    refine V.iload_n hc dX10_putSign_17 rfl rfl ?_
    obtain ⟨g4, hw⟩ := hw
    refine V.ast hc ak_44 g4 dX10_putSign_18 (fun h3 e => ?_)
    replace hw := hw h3 e
    clear e
    refine V.aload_n (t := 10) hc dX10_putSign_19 rfl rfl ?_
    refine V.dup hc dX10_putSign_20 (by simp) ?_
    refine V.gI hc gI_X10_15 rfl dX10_putSign_21 ?_
    refine V.iconst hc dX10_putSign_24 ?_
    refine V.iadd hc dX10_putSign_25 ?_
    refine V.pI hc pI_X10_15 rfl dX10_putSign_26 (fun h5 e => ?_)
    replace hw := hw h5 e
    clear e
    exact V.vret hc hr dX10_putSign_29 hw
theorem tX10_putText_2 {G : GG} {p : Program} {l : Launch} {e : Jvm.Env} {s : State} {m : MethodId} {args : Array Value} {below : List Frame} {meth : Method} {c : Code} {P : HP → Prop} (hc : VC G p (rmD 5 0) s m args meth c RX10 cX10_putText 3 5) (hr : meth.sig.returnType = none) {o : Int} {s1 : Int} {K25 : HP → Prop} (hK25 : ∀  (h : HP), K25  h → V G p l e (rmD 5 0) s m args below meth c (MQ below (QV G P) args s 0 0 (va_Aof G)) 3 25 [(1, 0), (1, 0), (1, 0)] [] h 0) : ∀ (f : Nat) (l2 : Int) (h : HP), wX10_putText_2 o s1 K25 f l2 h → V G p l e (rmD 5 0) s m args below meth c (MQ below (QV G P) args s 0 0 (va_Aof G)) 3 2 [(20, o), (6, s1), (0, l2)] [] h 0 := by
  intro f
  induction f with
  | zero =>
    intro l2 h hw
    exact hw.elim
  | succ f ih =>
    intro l2 h hw
    refine V.iload_n hc dX10_putText_2 rfl rfl ?_
    refine V.aloadS_n hc dX10_putText_3 rfl rfl ?_
    refine V.sLen hc ml_X10_59 rfl rfl dX10_putText_4 ?_
    obtain ⟨g1, hw⟩ := hw
    obtain ⟨g2, hw⟩ := hw
    refine V.icmp_ge hc (tgt := 25) dX10_putText_7 (by decide) g1 g2 (fun c3 => ?_) (fun c3 => ?_)
    · replace hw := hw.1 c3
      refine V.drop (lo' := [(1, 0), (1, 0), (1, 0)]) ⟨Or.inl rfl, Or.inl rfl, Or.inl rfl, trivial⟩ ?_
      exact hK25 _ hw
    · replace hw := hw.2 c3
      refine V.aload_n (t := 10) hc dX10_putText_10 rfl rfl ?_
      refine V.aloadS_n hc dX10_putText_11 rfl rfl ?_
      refine V.iload_n hc dX10_putText_12 rfl rfl ?_
      obtain ⟨g4, hw⟩ := hw
      refine V.sChar hc ml_X10_64 rfl rfl g4 dX10_putText_13 ?_
      refine V.callVV hc (qX10_putSign G l _ _ _ _ hw) mo_X10_putSign ml_X10_68 (by rfl) rfl rfl (as := [(0, strC s1 l2)]) rfl rfl rfl rfl rfl ⟨Nat.zero_le _, Nat.zero_le _⟩ dX10_putText_16 (fun h5 hw => ?_)
      refine V.iinc hc dX10_putText_19 rfl rfl (lo' := [(20, o), (6, s1), (0, l2 + 1)]) rfl ?_
      refine V.goto hc (tgt := 2) dX10_putText_22 (by decide) ?_
      exact ih _ _ hw
theorem qX10_putText (G : GG) (l : Launch) (o : Int) (s1 : Int) (h : HP) (P : HP → Prop) (hw : wX10_putText o s1 h P) : CnV l G yX10_putText cX10_putText 3 5 [(20, o), (6, s1)] h P := by
  refine CnV.of (lo := [(20, o), (6, s1), (1, 0)]) (by decide) rfl rfl rfl ?_
  intro p e s m args below meth c hc hr
  have hc : VC G p (rmD 5 0) s m args meth c RX10 cX10_putText 3 5 := hc
  refine V.iconst hc dX10_putText_0 ?_
  refine V.istore_n hc dX10_putText_1 rfl rfl (lo' := [(20, o), (6, s1), (0, 0)]) rfl ?_
  obtain ⟨f6, hw⟩ := hw
  refine tX10_putText_2 hc hr ?_ f6 _ _ hw
  · intro h7 hw
    exact V.vret hc hr dX10_putText_25 hw
theorem tX10_putNumber_26 {G : GG} {p : Program} {l : Launch} {e : Jvm.Env} {s : State} {m : MethodId} {args : Array Value} {below : List Frame} {meth : Method} {c : Code} {P : HP → Prop} (hc : VC G p (rmD 2 0) s m args meth c RX10 cX10_putNumber 2 2) (hr : meth.sig.returnType = none) {o : Int} {a1 : Int} {h : HP} (hw : wX10_putNumber_26 o a1 P h) : V G p l e (rmD 2 0) s m args below meth c (MQ below (QV G P) args s 0 0 (va_Aof G)) 2 26 [(20, o), (0, a1)] [] h 0 := by
  refine V.iload_n hc dX10_putNumber_26 rfl rfl ?_
  refine V.bipush hc dX10_putNumber_27 (by decide) ?_
  obtain ⟨g4, hw⟩ := hw
  refine V.icmp_lt hc (tgt := 46) dX10_putNumber_29 (by decide) g4 (by omega) (fun c5 => ?_) (fun c5 => ?_)
  · replace hw := hw.1 c5
    refine V.aload_n (t := 10) hc dX10_putNumber_46 rfl rfl ?_
    refine V.bipush hc dX10_putNumber_47 (by decide) ?_
    refine V.iload_n hc dX10_putNumber_49 rfl rfl ?_
    refine V.bipush hc dX10_putNumber_50 (by decide) ?_
    obtain ⟨g6, hw⟩ := hw
    refine V.irem hc g6 (by omega) dX10_putNumber_52 ?_
    refine V.iadd hc dX10_putNumber_53 ?_
    refine V.callVV hc (qX10_putSign G l _ _ _ _ hw) mo_X10_putSign ml_X10_68 (by rfl) rfl rfl (as := [(0, 48 + (a1 % 10))]) rfl rfl rfl rfl rfl ⟨Nat.zero_le _, Nat.zero_le _⟩ dX10_putNumber_54 (fun h7 hw => ?_)
    exact V.vret hc hr dX10_putNumber_57 hw
  · replace hw := hw.2 c5
    refine V.aload_n (t := 10) hc dX10_putNumber_32 rfl rfl ?_
    refine V.bipush hc dX10_putNumber_33 (by decide) ?_
    refine V.iload_n hc dX10_putNumber_35 rfl rfl ?_
    refine V.bipush hc dX10_putNumber_36 (by decide) ?_
    obtain ⟨g8, hw⟩ := hw
    refine V.idiv hc g8 (by omega) dX10_putNumber_38 ?_
    refine V.bipush hc dX10_putNumber_39 (by decide) ?_
    obtain ⟨g9, hw⟩ := hw
    refine V.irem hc g9 (by omega) dX10_putNumber_41 ?_
    refine V.iadd hc dX10_putNumber_42 ?_
    refine V.callVV hc (qX10_putSign G l _ _ _ _ hw) mo_X10_putSign ml_X10_68 (by rfl) rfl rfl (as := [(0, 48 + ((a1 / 10) % 10))]) rfl rfl rfl rfl rfl ⟨Nat.zero_le _, Nat.zero_le _⟩ dX10_putNumber_43 (fun h10 hw => ?_)
    refine V.aload_n (t := 10) hc dX10_putNumber_46 rfl rfl ?_
    refine V.bipush hc dX10_putNumber_47 (by decide) ?_
    refine V.iload_n hc dX10_putNumber_49 rfl rfl ?_
    refine V.bipush hc dX10_putNumber_50 (by decide) ?_
    obtain ⟨g11, hw⟩ := hw
    refine V.irem hc g11 (by omega) dX10_putNumber_52 ?_
    refine V.iadd hc dX10_putNumber_53 ?_
    refine V.callVV hc (qX10_putSign G l _ _ _ _ hw) mo_X10_putSign ml_X10_68 (by rfl) rfl rfl (as := [(0, 48 + (a1 % 10))]) rfl rfl rfl rfl rfl ⟨Nat.zero_le _, Nat.zero_le _⟩ dX10_putNumber_54 (fun h12 hw => ?_)
    exact V.vret hc hr dX10_putNumber_57 hw
theorem qX10_putNumber (G : GG) (l : Launch) (o : Int) (a1 : Int) (h : HP) (P : HP → Prop) (hw : wX10_putNumber o a1 h P) : CnV l G yX10_putNumber cX10_putNumber 2 2 [(20, o), (0, a1)] h P := by
  refine CnV.of (lo := [(20, o), (0, a1)]) (by decide) rfl rfl rfl ?_
  intro p e s m args below meth c hc hr
  have hc : VC G p (rmD 2 0) s m args meth c RX10 cX10_putNumber 2 2 := hc
  refine V.aload_n (t := 10) hc dX10_putNumber_0 rfl rfl ?_
  refine V.bipush hc dX10_putNumber_1 (by decide) ?_
  refine V.callVV hc (qX10_putSign G l _ _ _ _ hw) mo_X10_putSign ml_X10_68 (by rfl) rfl rfl (as := [(0, 32)]) rfl rfl rfl rfl rfl ⟨Nat.zero_le _, Nat.zero_le _⟩ dX10_putNumber_3 (fun h1 hw => ?_)
  refine V.iload_n hc dX10_putNumber_6 rfl rfl ?_
  refine V.bipush hc dX10_putNumber_7 (by decide) ?_
  obtain ⟨g2, hw⟩ := hw
  refine V.icmp_lt hc (tgt := 26) dX10_putNumber_9 (by decide) g2 (by omega) (fun c3 => ?_) (fun c3 => ?_)
  · replace hw := hw.1 c3
    exact tX10_putNumber_26 hc hr  hw
  · replace hw := hw.2 c3
    refine V.aload_n (t := 10) hc dX10_putNumber_12 rfl rfl ?_
    refine V.bipush hc dX10_putNumber_13 (by decide) ?_
    refine V.iload_n hc dX10_putNumber_15 rfl rfl ?_
    refine V.bipush hc dX10_putNumber_16 (by decide) ?_
    obtain ⟨g13, hw⟩ := hw
    refine V.idiv hc g13 (by omega) dX10_putNumber_18 ?_
    refine V.bipush hc dX10_putNumber_19 (by decide) ?_
    obtain ⟨g14, hw⟩ := hw
    refine V.irem hc g14 (by omega) dX10_putNumber_21 ?_
    refine V.iadd hc dX10_putNumber_22 ?_
    refine V.callVV hc (qX10_putSign G l _ _ _ _ hw) mo_X10_putSign ml_X10_68 (by rfl) rfl rfl (as := [(0, 48 + ((a1 / 100) % 10))]) rfl rfl rfl rfl rfl ⟨Nat.zero_le _, Nat.zero_le _⟩ dX10_putNumber_23 (fun h15 hw => ?_)
    exact tX10_putNumber_26 hc hr  hw
theorem tX10_tell_124 {G : GG} {p : Program} {l : Launch} {e : Jvm.Env} {s : State} {m : MethodId} {args : Array Value} {below : List Frame} {meth : Method} {c : Code} {P : HP → Prop} (hc : VC G p (rmD 6 0) s m args meth c RX10 cX10_tell 6 6) (hr : meth.sig.returnType = none) {o : Int} {a1 : Int} {o2 : Int} {o3 : Int} {l4 : Int} {h : HP} {K41 : Int → HP → Prop} (hK41 : ∀ (x4 : Int) (h : HP), K41 x4 h → V G p l e (rmD 6 0) s m args below meth c (MQ below (QV G P) args s 0 0 (va_Aof G)) 6 41 [(20, o), (0, a1), (1, 0), (11, o3), (0, x4), (1, 0)] [] h 0) (hw : wX10_tell_124 o a1 o2 o3 l4 K41 h) : V G p l e (rmD 6 0) s m args below meth c (MQ below (QV G P) args s 0 0 (va_Aof G)) 6 124 [(20, o), (0, a1), (1, 0), (11, o3), (0, l4), (1, 0)] [] h 0 := by
  refine V.iinc hc dX10_tell_124 rfl rfl (lo' := [(20, o), (0, a1), (1, 0), (11, o3), (0, l4 + 1), (1, 0)]) rfl ?_
  refine V.goto hc (tgt := 41) dX10_tell_127 (by decide) ?_
  exact hK41 _ _ hw
theorem tX10_tell_41 {G : GG} {p : Program} {l : Launch} {e : Jvm.Env} {s : State} {m : MethodId} {args : Array Value} {below : List Frame} {meth : Method} {c : Code} {P : HP → Prop} (hc : VC G p (rmD 6 0) s m args meth c RX10 cX10_tell 6 6) (hr : meth.sig.returnType = none) {o : Int} {a1 : Int} {o2 : Int} {o3 : Int} {K130 : HP → Prop} (hK130 : ∀  (h : HP), K130  h → V G p l e (rmD 6 0) s m args below meth c (MQ below (QV G P) args s 0 0 (va_Aof G)) 6 130 [(20, o), (1, 0), (1, 0), (1, 0), (1, 0), (1, 0)] [] h 0) : ∀ (f : Nat) (l4 : Int) (h : HP), wX10_tell_41 o a1 o2 o3 K130 f l4 h → V G p l e (rmD 6 0) s m args below meth c (MQ below (QV G P) args s 0 0 (va_Aof G)) 6 41 [(20, o), (0, a1), (1, 0), (11, o3), (0, l4), (1, 0)] [] h 0 := by
  intro f
  induction f with
  | zero =>
    intro l4 h hw
    exact hw.elim
  | succ f ih =>
    intro l4 h hw
    refine V.iload hc dX10_tell_41 rfl ?_
    refine V.iconst hc dX10_tell_43 ?_
    obtain ⟨g6, hw⟩ := hw
    refine V.icmp_ge hc (tgt := 130) dX10_tell_44 (by decide) g6 (by omega) (fun c7 => ?_) (fun c7 => ?_)
    · replace hw := hw.1 c7
      refine V.drop (lo' := [(20, o), (1, 0), (1, 0), (1, 0), (1, 0), (1, 0)]) ⟨Or.inr rfl, Or.inl rfl, Or.inr rfl, Or.inl rfl, Or.inl rfl, Or.inr rfl, trivial⟩ ?_
      exact hK130 _ hw
    · replace hw := hw.2 c7
      refine V.iload_n hc dX10_tell_47 rfl rfl ?_
      refine V.iconst hc dX10_tell_48 ?_
      refine V.imul hc dX10_tell_49 ?_
      refine V.iload hc dX10_tell_50 rfl ?_
      refine V.iadd hc dX10_tell_52 ?_
      refine V.istore hc dX10_tell_53 rfl (lo' := [(20, o), (0, a1), (1, 0), (11, o3), (0, l4), (0, (a1 * 3) + l4)]) rfl ?_
      refine V.aload_n (t := 1) hc dX10_tell_55 rfl rfl ?_
      refine V.iload hc dX10_tell_56 rfl ?_
      refine V.callVI hc (qX1_has G l _ _ _ _ hw) mo_X1_has ml_X10_36 (by rfl) rfl rfl (as := [(0, (a1 * 3) + l4)]) rfl rfl rfl rfl rfl ⟨Nat.zero_le _, Nat.zero_le _⟩ dX10_tell_58 (fun x9 h8 hw => ?_)
      obtain ⟨g10, hw⟩ := hw
      refine V.if_eq hc (tgt := 124) dX10_tell_61 (by decide) g10 (fun c11 => ?_) (fun c11 => ?_)
      · replace hw := hw.1 c11
        refine V.drop (lo' := [(20, o), (0, a1), (1, 0), (11, o3), (0, l4), (1, 0)]) ⟨Or.inr rfl, Or.inr rfl, Or.inr rfl, Or.inr rfl, Or.inr rfl, Or.inl rfl, trivial⟩ ?_
        exact tX10_tell_124 hc hr (fun y4 hy hw => by exact ih _ _ hw) hw
      · replace hw := hw.2 c11
        refine V.aload_n (t := 10) hc dX10_tell_64 rfl rfl ?_
        refine V.iload hc dX10_tell_65 rfl ?_
        obtain ⟨q15, hw⟩ := hw
        have kJ23 : ∀ t14 : Int, ((¬ l4 = 0 → ((¬ l4 = 1 → t14 = 10) ∧ (l4 = 1 → t14 = 9))) ∧ (l4 = 0 → t14 = 8)) → V G p l e (rmD 6 0) s m args below meth c (MQ below (QV G P) args s 0 0 (va_Aof G)) 6 88 [(20, o), (0, a1), (1, 0), (11, o3), (0, l4), (0, (a1 * 3) + l4)] [(6, t14), (20, o)] h8 0 := by
          intro t14 he
          replace hw := hw t14 he
          clear he
          refine V.callVV hc (qX10_putText G l _ _ _ _ hw) mo_X10_putText ml_X10_21 (by rfl) rfl rfl (as := [(6, t14)]) rfl rfl rfl rfl rfl ⟨Nat.zero_le _, Nat.zero_le _⟩ dX10_tell_88 (fun h16 hw => ?_)
          refine V.aload_n (t := 10) hc dX10_tell_91 rfl rfl ?_
          refine V.aload_n (t := 1) hc dX10_tell_92 rfl rfl ?_
          refine V.gR hc gR_X10_48 (i' := o3) rfl dX10_tell_93 ?_
          refine V.iload hc dX10_tell_96 rfl ?_
          obtain ⟨g17, hw⟩ := hw
          refine V.ald hc ak_13 g17 dX10_tell_98 ?_
          refine V.callVV hc (qX10_putNumber G l _ _ _ _ hw) mo_X10_putNumber ml_X10_32 (by rfl) rfl rfl (as := [(0, h16 13 o3 ((a1 * 3) + l4))]) rfl rfl rfl rfl rfl ⟨Nat.zero_le _, Nat.zero_le _⟩ dX10_tell_99 (fun h18 hw => ?_)
          refine V.aload_n (t := 10) hc dX10_tell_102 rfl rfl ?_
          refine V.aload_n (t := 1) hc dX10_tell_103 rfl rfl ?_
          refine V.gR hc gR_X10_51 (i' := o3) rfl dX10_tell_104 ?_
          refine V.iload hc dX10_tell_107 rfl ?_
          obtain ⟨g19, hw⟩ := hw
          refine V.ald hc ak_14 g19 dX10_tell_109 ?_
          refine V.callVV hc (qX10_putNumber G l _ _ _ _ hw) mo_X10_putNumber ml_X10_32 (by rfl) rfl rfl (as := [(0, h18 14 o3 ((a1 * 3) + l4))]) rfl rfl rfl rfl rfl ⟨Nat.zero_le _, Nat.zero_le _⟩ dX10_tell_110 (fun h20 hw => ?_)
          refine V.aload_n (t := 10) hc dX10_tell_113 rfl rfl ?_
          refine V.aload_n (t := 1) hc dX10_tell_114 rfl rfl ?_
          refine V.gR hc gR_X10_54 (i' := o3) rfl dX10_tell_115 ?_
          refine V.iload hc dX10_tell_118 rfl ?_
          obtain ⟨g21, hw⟩ := hw
          refine V.ald hc ak_15 g21 dX10_tell_120 ?_
          refine V.callVV hc (qX10_putNumber G l _ _ _ _ hw) mo_X10_putNumber ml_X10_32 (by rfl) rfl rfl (as := [(0, h20 15 o3 ((a1 * 3) + l4))]) rfl rfl rfl rfl rfl ⟨Nat.zero_le _, Nat.zero_le _⟩ dX10_tell_121 (fun h22 hw => ?_)
          refine V.drop (lo' := [(20, o), (0, a1), (1, 0), (11, o3), (0, l4), (1, 0)]) ⟨Or.inr rfl, Or.inr rfl, Or.inr rfl, Or.inr rfl, Or.inr rfl, Or.inl rfl, trivial⟩ ?_
          exact tX10_tell_124 hc hr (fun y4 hy hw => by exact ih _ _ hw) hw
        obtain ⟨g12, q24⟩ := q15
        refine V.if_ne hc (tgt := 75) dX10_tell_67 (by decide) g12 (fun c25 => ?_) (fun c25 => ?_)
        · have q26 := q24 c25
          have g13 := q26
          refine V.iload hc dX10_tell_75 rfl ?_
          refine V.iconst hc dX10_tell_77 ?_
          refine V.icmp_ne hc (tgt := 86) dX10_tell_78 (by decide) g13 (by omega) (fun c27 => ?_) (fun c27 => ?_)
          · refine V.ldcS hc sl_X10_46 rfl rfl dX10_tell_86 ?_
            exact kJ23 _ ⟨fun _ => ⟨fun _ => rfl, (fun q => absurd q c27)⟩, (fun q => absurd q c25)⟩
          · refine V.ldcS hc sl_X10_44 rfl rfl dX10_tell_81 ?_
            refine V.goto hc (tgt := 88) dX10_tell_83 (by decide) ?_
            exact kJ23 _ ⟨fun _ => ⟨(fun q => absurd c27 q), fun _ => rfl⟩, (fun q => absurd q c25)⟩
        · refine V.ldcS hc sl_X10_42 rfl rfl dX10_tell_70 ?_
          refine V.goto hc (tgt := 88) dX10_tell_72 (by decide) ?_
          exact kJ23 _ ⟨(fun q => absurd c25 q), fun _ => rfl⟩
theorem tX10_tell_38 {G : GG} {p : Program} {l : Launch} {e : Jvm.Env} {s : State} {m : MethodId} {args : Array Value} {below : List Frame} {meth : Method} {c : Code} {P : HP → Prop} (hc : VC G p (rmD 6 0) s m args meth c RX10 cX10_tell 6 6) (hr : meth.sig.returnType = none) {o : Int} {a1 : Int} {o2 : Int} {o3 : Int} {h : HP} (hw : wX10_tell_38 o a1 o2 o3 P h) : V G p l e (rmD 6 0) s m args below meth c (MQ below (QV G P) args s 0 0 (va_Aof G)) 6 38 [(20, o), (0, a1), (1, 0), (11, o3), (1, 0), (1, 0)] [] h 0 := by
  refine V.iconst hc dX10_tell_38 ?_
  refine V.istore hc dX10_tell_39 rfl (lo' := [(20, o), (0, a1), (1, 0), (11, o3), (0, 0), (1, 0)]) rfl ?_
  obtain ⟨f28, hw⟩ := hw
  refine tX10_tell_41 hc hr ?_ f28 _ _ hw
  · intro h29 hw
    refine V.aload_n (t := 10) hc dX10_tell_130 rfl rfl ?_
    refine V.ldcS hc sl_X10_57 rfl rfl dX10_tell_131 ?_
    refine V.callVV hc (qX10_putText G l _ _ _ _ hw) mo_X10_putText ml_X10_21 (by rfl) rfl rfl (as := [(6, 7)]) rfl rfl rfl rfl rfl ⟨Nat.zero_le _, Nat.zero_le _⟩ dX10_tell_133 (fun h30 hw => ?_)
    exact V.vret hc hr dX10_tell_136 hw
theorem qX10_tell (G : GG) (l : Launch) (o : Int) (a1 : Int) (o2 : Int) (o3 : Int) (h : HP) (P : HP → Prop) (hw : wX10_tell o a1 o2 o3 h P) : CnV l G yX10_tell cX10_tell 6 6 [(20, o), (0, a1), (18, o2), (11, o3)] h P := by
  refine CnV.of (lo := [(20, o), (0, a1), (18, o2), (11, o3), (1, 0), (1, 0)]) (by decide) rfl rfl rfl ?_
  intro p e s m args below meth c hc hr
  have hc : VC G p (rmD 6 0) s m args meth c RX10 cX10_tell 6 6 := hc
  refine V.aload_n (t := 10) hc dX10_tell_0 rfl rfl ?_
  refine V.iconst hc dX10_tell_1 ?_
  refine V.pI hc pI_X10_15 rfl dX10_tell_2 (fun h1 e => ?_)
  replace hw := hw h1 e
  clear e
  refine V.aload_n (t := 10) hc dX10_tell_5 rfl rfl ?_
  refine V.ldcS hc sl_X10_19 rfl rfl dX10_tell_6 ?_
  refine V.callVV hc (qX10_putText G l _ _ _ _ hw) mo_X10_putText ml_X10_21 (by rfl) rfl rfl (as := [(6, 3)]) rfl rfl rfl rfl rfl ⟨Nat.zero_le _, Nat.zero_le _⟩ dX10_tell_8 (fun h2 hw => ?_)
  refine V.aload_n (t := 8) hc dX10_tell_11 rfl rfl ?_
  refine V.gR hc gR_X10_25 (i' := o2) rfl dX10_tell_12 ?_
  refine V.iload_n hc dX10_tell_15 rfl rfl ?_
  obtain ⟨g3, hw⟩ := hw
  refine V.ald hc ak_37 g3 dX10_tell_16 ?_
  refine V.bipush hc dX10_tell_17 (by decide) ?_
  obtain ⟨g4, hw⟩ := hw
  refine V.icmp_eq hc (tgt := 38) dX10_tell_19 (by decide) g4 (by omega) (fun c5 => ?_) (fun c5 => ?_)
  · replace hw := hw.1 c5
    refine V.drop (lo' := [(20, o), (0, a1), (1, 0), (11, o3), (1, 0), (1, 0)]) ⟨Or.inr rfl, Or.inr rfl, Or.inl rfl, Or.inr rfl, Or.inr rfl, Or.inr rfl, trivial⟩ ?_
    exact tX10_tell_38 hc hr  hw
  · replace hw := hw.2 c5
    refine V.aload_n (t := 10) hc dX10_tell_22 rfl rfl ?_
    refine V.ldcS hc sl_X10_30 rfl rfl dX10_tell_23 ?_
    refine V.callVV hc (qX10_putText G l _ _ _ _ hw) mo_X10_putText ml_X10_21 (by rfl) rfl rfl (as := [(6, 6)]) rfl rfl rfl rfl rfl ⟨Nat.zero_le _, Nat.zero_le _⟩ dX10_tell_25 (fun h31 hw => ?_)
    refine V.aload_n (t := 10) hc dX10_tell_28 rfl rfl ?_
    refine V.aload_n (t := 8) hc dX10_tell_29 rfl rfl ?_
    refine V.gR hc gR_X10_25 (i' := o2) rfl dX10_tell_30 ?_
    refine V.iload_n hc dX10_tell_33 rfl rfl ?_
    obtain ⟨g32, hw⟩ := hw
    refine V.ald hc ak_37 g32 dX10_tell_34 ?_
    refine V.callVV hc (qX10_putNumber G l _ _ _ _ hw) mo_X10_putNumber ml_X10_32 (by rfl) rfl rfl (as := [(0, h31 37 o2 a1)]) rfl rfl rfl rfl rfl ⟨Nat.zero_le _, Nat.zero_le _⟩ dX10_tell_35 (fun h33 hw => ?_)
    refine V.drop (lo' := [(20, o), (0, a1), (1, 0), (11, o3), (1, 0), (1, 0)]) ⟨Or.inr rfl, Or.inr rfl, Or.inl rfl, Or.inr rfl, Or.inr rfl, Or.inr rfl, trivial⟩ ?_
    exact tX10_tell_38 hc hr  hw
theorem tX11_putNumber_43 {G : GG} {p : Program} {l : Launch} {e : Jvm.Env} {s : State} {m : MethodId} {args : Array Value} {below : List Frame} {meth : Method} {c : Code} {P : HP → Prop} (hc : VC G p (rmD 1 0) s m args meth c RX11 cX11_putNumber 3 1) (hr : meth.sig.returnType = none) {o : Int} {a1 : Int} {l2 : Int} {h : HP} {K3 : Int → HP → Prop} (hK3 : ∀ (x2 : Int) (h : HP), K3 x2 h → V G p l e (rmD 1 0) s m args below meth c (MQ below (QV G P) args s 0 0 (va_Aof G)) 3 3 [(21, o), (0, a1), (0, x2)] [] h 0) (hw : wX11_putNumber_43 o a1 l2 K3 h) : V G p l e (rmD 1 0) s m args below meth c (MQ below (QV G P) args s 0 0 (va_Aof G)) 3 43 [(21, o), (0, a1), (0, l2)] [] h 0 := by
  refine V.iinc hc dX11_putNumber_43 rfl rfl (lo' := [(21, o), (0, a1), (0, l2 + (-8))]) rfl ?_
  refine V.goto hc (tgt := 3) dX11_putNumber_46 (by decide) ?_
  exact hK3 _ _ hw
theorem tX11_putNumber_3 {G : GG} {p : Program} {l : Launch} {e : Jvm.Env} {s : State} {m : MethodId} {args : Array Value} {below : List Frame} {meth : Method} {c : Code} {P : HP → Prop} (hc : VC G p (rmD 1 0) s m args meth c RX11 cX11_putNumber 3 1) (hr : meth.sig.returnType = none) {o : Int} {a1 : Int} {K49 : HP → Prop} (hK49 : ∀  (h : HP), K49  h → V G p l e (rmD 1 0) s m args below meth c (MQ below (QV G P) args s 0 0 (va_Aof G)) 3 49 [(1, 0), (1, 0), (1, 0)] [] h 0) : ∀ (f : Nat) (l2 : Int) (h : HP), wX11_putNumber_3 o a1 K49 f l2 h → V G p l e (rmD 1 0) s m args below meth c (MQ below (QV G P) args s 0 0 (va_Aof G)) 3 3 [(21, o), (0, a1), (0, l2)] [] h 0 := by
  intro f
  induction f with
  | zero =>
    intro l2 h hw
    exact hw.elim
  | succ f ih =>
    intro l2 h hw
    refine V.iload_n hc dX11_putNumber_3 rfl rfl ?_
    obtain ⟨g1, hw⟩ := hw
    refine V.if_lt hc (tgt := 49) dX11_putNumber_4 (by decide) g1 (fun c2 => ?_) (fun c2 => ?_)
    · replace hw := hw.1 c2
      refine V.drop (lo' := [(1, 0), (1, 0), (1, 0)]) ⟨Or.inl rfl, Or.inl rfl, Or.inl rfl, trivial⟩ ?_
      exact hK49 _ hw
    · replace hw := hw.2 c2
      refine V.aload_n (t := 11) hc dX11_putNumber_7 rfl rfl ?_
      refine V.gI hc gI_X11_13 rfl dX11_putNumber_8 ?_
      refine V.sipush hc dX11_putNumber_11 (by decide) ?_
      obtain ⟨g3, hw⟩ := hw
      refine V.icmp_ge hc (tgt := 43) dX11_putNumber_14 (by decide) g3 (by omega) (fun c4 => ?_) (fun c4 => ?_)
      · replace hw := hw.1 c4
        exact tX11_putNumber_43 hc hr (fun y2 hy hw => by exact ih _ _ hw) hw
      · replace hw := hw.2 c4
        refine V.aload_n (t := 11) hc dX11_putNumber_17 rfl rfl ?_
        refine V.gR hc gR_X11_9 (i' := o) rfl dX11_putNumber_18 ?_
        refine V.aload_n (t := 11) hc dX11_putNumber_21 rfl rfl ?_
        refine V.gI hc gI_X11_13 rfl dX11_putNumber_22 ?_
        refine V.iload_n hc dX11_putNumber_25 rfl rfl ?_
        refine V.iload_n hc dX11_putNumber_26 rfl rfl ?_
        refine V.iushr hc dX11_putNumber_27 ?_
        refine V.sipush hc dX11_putNumber_28 (by decide) ?_
        refine V.iand hc dX11_putNumber_31 ?_
        obtain ⟨g6, hw⟩ := hw
        refine V.ast hc ak_45 g6 dX11_putNumber_32 (fun h5 e => ?_)
        replace hw := hw h5 e
        clear e
        refine V.aload_n (t := 11) hc dX11_putNumber_33 rfl rfl ?_
        refine V.dup hc dX11_putNumber_34 (by simp) ?_
        refine V.gI hc gI_X11_13 rfl dX11_putNumber_35 ?_
        refine V.iconst hc dX11_putNumber_38 ?_
        refine V.iadd hc dX11_putNumber_39 ?_
        refine V.pI hc pI_X11_13 rfl dX11_putNumber_40 (fun h7 e => ?_)
        replace hw := hw h7 e
        clear e
        exact tX11_putNumber_43 hc hr (fun y2 hy hw => by exact ih _ _ hw) hw
theorem qX11_putNumber (G : GG) (l : Launch) (o : Int) (a1 : Int) (h : HP) (P : HP → Prop) (hw : wX11_putNumber o a1 h P) : CnV l G yX11_putNumber cX11_putNumber 3 1 [(21, o), (0, a1)] h P := by
  refine CnV.of (lo := [(21, o), (0, a1), (1, 0)]) (by decide) rfl rfl rfl ?_
  intro p e s m args below meth c hc hr
  have hc : VC G p (rmD 1 0) s m args meth c RX11 cX11_putNumber 3 1 := hc
  refine V.bipush hc dX11_putNumber_0 (by decide) ?_
  refine V.istore_n hc dX11_putNumber_2 rfl rfl (lo' := [(21, o), (0, a1), (0, 24)]) rfl ?_
  obtain ⟨f8, hw⟩ := hw
  refine tX11_putNumber_3 hc hr ?_ f8 _ _ hw
  · intro h9 hw
    exact V.vret hc hr dX11_putNumber_49 hw
theorem qX11_feed (G : GG) (l : Launch) (o : Int) (a1 : Int) (a2 : Int) (a3 : Int) (a4 : Int) (a5 : Int) (h : HP) (P : Int → HP → Prop) (hw : wX11_feed o a1 a2 a3 a4 a5 h P) : CnI l G yX11_feed cX11_feed 6 (some .int) 2 [(21, o), (0, a1), (0, a2), (0, a3), (0, a4), (0, a5)] h P := by
  refine CnI.of (lo := [(21, o), (0, a1), (0, a2), (0, a3), (0, a4), (0, a5)]) (by decide) rfl rfl rfl ?_
  intro p e s m args below meth c hc hr
  have hc : VC G p (rmD 2 0) s m args meth c RX11 cX11_feed 6 2 := hc
  refine V.aload_n (t := 11) hc dX11_feed_0 rfl rfl ?_
  refine V.gI hc gI_X11_13 rfl dX11_feed_1 ?_
  refine V.bipush hc dX11_feed_4 (by decide) ?_
  refine V.iadd hc dX11_feed_6 ?_
  refine V.sipush hc dX11_feed_7 (by decide) ?_
  obtain ⟨g1, hw⟩ := hw
  refine V.icmp_le hc (tgt := 15) dX11_feed_10 (by decide) g1 (by omega) (fun c2 => ?_) (fun c2 => ?_)
  · replace hw := hw.1 c2
    refine V.aload_n (t := 11) hc dX11_feed_15 rfl rfl ?_
    refine V.iload_n hc dX11_feed_16 rfl rfl ?_
    refine V.callVV hc (qX11_putNumber G l _ _ _ _ hw) mo_X11_putNumber ml_X11_125 (by rfl) rfl rfl (as := [(0, a1)]) rfl rfl rfl rfl rfl ⟨Nat.zero_le _, Nat.zero_le _⟩ dX11_feed_17 (fun h3 hw => ?_)
    refine V.aload_n (t := 11) hc dX11_feed_20 rfl rfl ?_
    refine V.iload_n hc dX11_feed_21 rfl rfl ?_
    refine V.callVV hc (qX11_putNumber G l _ _ _ _ hw) mo_X11_putNumber ml_X11_125 (by rfl) rfl rfl (as := [(0, a2)]) rfl rfl rfl rfl rfl ⟨Nat.zero_le _, Nat.zero_le _⟩ dX11_feed_22 (fun h4 hw => ?_)
    refine V.aload_n (t := 11) hc dX11_feed_25 rfl rfl ?_
    refine V.iload_n hc dX11_feed_26 rfl rfl ?_
    refine V.callVV hc (qX11_putNumber G l _ _ _ _ hw) mo_X11_putNumber ml_X11_125 (by rfl) rfl rfl (as := [(0, a3)]) rfl rfl rfl rfl rfl ⟨Nat.zero_le _, Nat.zero_le _⟩ dX11_feed_27 (fun h5 hw => ?_)
    refine V.aload_n (t := 11) hc dX11_feed_30 rfl rfl ?_
    refine V.iload hc dX11_feed_31 rfl ?_
    refine V.callVV hc (qX11_putNumber G l _ _ _ _ hw) mo_X11_putNumber ml_X11_125 (by rfl) rfl rfl (as := [(0, a4)]) rfl rfl rfl rfl rfl ⟨Nat.zero_le _, Nat.zero_le _⟩ dX11_feed_33 (fun h6 hw => ?_)
    refine V.aload_n (t := 11) hc dX11_feed_36 rfl rfl ?_
    refine V.iload hc dX11_feed_37 rfl ?_
    refine V.callVV hc (qX11_putNumber G l _ _ _ _ hw) mo_X11_putNumber ml_X11_125 (by rfl) rfl rfl (as := [(0, a5)]) rfl rfl rfl rfl rfl ⟨Nat.zero_le _, Nat.zero_le _⟩ dX11_feed_39 (fun h7 hw => ?_)
    refine V.aload_n (t := 11) hc dX11_feed_42 rfl rfl ?_
    refine V.gI hc gI_X11_13 rfl dX11_feed_43 ?_
    exact V.iret hc hr dX11_feed_46 hw
  · replace hw := hw.2 c2
    refine V.iconst hc dX11_feed_13 ?_
    exact V.iret hc hr dX11_feed_14 hw
theorem qX11_link (G : GG) (l : Launch) (o : Int) (a1 : Int) (h : HP) (P : Int → HP → Prop) (X : Nat → HP → Prop) (hX : ∀ (k : Nat) (h : HP), ¬ X k h) (hw : wX11_link o a1 h P X) : CnI l G yX11_link cX11_link 3 (some .int) 12 [(21, o), (0, a1)] h P := by
  refine CnI.of (lo := [(21, o), (0, a1), (1, 0)]) (by decide) rfl rfl rfl ?_
  intro p e s m args below meth c hc hr
  have hc : VC G p (rmD 12 0) s m args meth c RX11 cX11_link 3 12 := hc
  refine V.iload_n hc dX11_link_0 rfl rfl ?_
  obtain ⟨g1, hw⟩ := hw
  refine V.if_lt hc (tgt := 12) dX11_link_1 (by decide) g1 (fun c2 => ?_) (fun c2 => ?_)
  · replace hw := hw.1 c2
    exact absurd hw (hX _ _)
  · replace hw := hw.2 c2
    refine V.iload_n hc dX11_link_4 rfl rfl ?_
    refine V.aload_n (t := 11) hc dX11_link_5 rfl rfl ?_
    refine V.gI hc gI_X11_13 rfl dX11_link_6 ?_
    obtain ⟨g3, hw⟩ := hw
    obtain ⟨g4, hw⟩ := hw
    refine V.icmp_le hc (tgt := 20) dX11_link_9 (by decide) g3 g4 (fun c5 => ?_) (fun c5 => ?_)
    · replace hw := hw.1 c5
      refine V.aload_n (t := 11) hc dX11_link_20 rfl rfl ?_
      refine V.gR hc gR_X11_38 (i' := 0) rfl dX11_link_21 ?_
      refine V.iload_n hc dX11_link_24 rfl rfl ?_
      refine V.callVI hc (qX9_read G l _ _ _ _ hw) mo_X9_read ml_X11_132 (by rfl) rfl rfl (as := [(0, a1)]) rfl rfl rfl rfl rfl ⟨Nat.zero_le _, Nat.zero_le _⟩ dX11_link_25 (fun x7 h6 hw => ?_)
      refine V.istore_n hc dX11_link_28 rfl rfl (lo' := [(21, o), (0, a1), (0, x7)]) rfl ?_
      refine V.aload_n (t := 11) hc dX11_link_29 rfl rfl ?_
      refine V.iconst hc dX11_link_30 ?_
      refine V.pI hc pI_X11_13 rfl dX11_link_31 (fun h8 e => ?_)
      replace hw := hw h8 e
      clear e
      refine V.iload_n hc dX11_link_34 rfl rfl ?_
      obtain ⟨g9, hw⟩ := hw
      refine V.if_eq hc (tgt := 61) dX11_link_35 (by decide) g9 (fun c10 => ?_) (fun c10 => ?_)
      · replace hw := hw.1 c10
        refine V.aload_n (t := 11) hc dX11_link_61 rfl rfl ?_
        refine V.iconst hc dX11_link_62 ?_
        refine V.pI hc pI_X11_17 rfl dX11_link_63 (fun h11 e => ?_)
        replace hw := hw h11 e
        clear e
        refine V.aload_n (t := 11) hc dX11_link_66 rfl rfl ?_
        refine V.gR hc gR_X11_26 (i' := 1) rfl dX11_link_67 ?_
        refine V.aload_n (t := 11) hc dX11_link_70 rfl rfl ?_
        refine V.gR hc gR_X11_30 (i' := 2) rfl dX11_link_71 ?_
        refine V.callVV hc (qX8_copyFrom G l _ _ _ _ hw) mo_X8_copyFrom ml_X11_140 (by rfl) rfl rfl (as := [(18, 2)]) rfl rfl rfl rfl rfl ⟨Nat.zero_le _, Nat.zero_le _⟩ dX11_link_74 (fun h12 hw => ?_)
        refine V.aload_n (t := 11) hc dX11_link_77 rfl rfl ?_
        refine V.gR hc gR_X11_47 (i' := 10) rfl dX11_link_78 ?_
        refine V.callVV hc (qX6_begin G l _ _ _ hw) mo_X6_begin ml_X11_143 (by rfl) rfl rfl (as := []) rfl rfl rfl rfl rfl ⟨Nat.zero_le _, Nat.zero_le _⟩ dX11_link_81 (fun h13 hw => ?_)
        refine V.aload_n (t := 11) hc dX11_link_84 rfl rfl ?_
        refine V.gR hc gR_X11_54 (i' := 3) rfl dX11_link_85 ?_
        refine V.callVV hc (qX5_clear G l _ _ _ hw) mo_X5_clear ml_X11_146 (by rfl) rfl rfl (as := []) rfl rfl rfl rfl rfl ⟨Nat.zero_le _, Nat.zero_le _⟩ dX11_link_88 (fun h14 hw => ?_)
        refine V.aload_n (t := 11) hc dX11_link_91 rfl rfl ?_
        refine V.gR hc gR_X11_61 (i' := 5) rfl dX11_link_92 ?_
        refine V.callVV hc (qX7_clear G l _ _ _ hw) mo_X7_clear ml_X11_149 (by rfl) rfl rfl (as := []) rfl rfl rfl rfl rfl ⟨Nat.zero_le _, Nat.zero_le _⟩ dX11_link_95 (fun h15 hw => ?_)
        refine V.aload_n (t := 11) hc dX11_link_98 rfl rfl ?_
        refine V.iconst hc dX11_link_99 ?_
        refine V.pZ hc pI_X11_65 rfl (by omega) dX11_link_100 (fun h16 e => ?_)
        replace hw := hw h16 e
        clear e
        refine V.iconst hc dX11_link_103 ?_
        exact V.iret hc hr dX11_link_104 hw
      · replace hw := hw.2 c10
        refine V.aload_n (t := 11) hc dX11_link_38 rfl rfl ?_
        refine V.aload_n (t := 11) hc dX11_link_39 rfl rfl ?_
        refine V.gR hc gR_X11_38 (i' := 0) rfl dX11_link_40 ?_
        refine V.callVI hc (qX9_place G l _ _ _ hw) mo_X9_place ml_X11_136 (by rfl) rfl rfl (as := []) rfl rfl rfl rfl rfl ⟨Nat.zero_le _, Nat.zero_le _⟩ dX11_link_43 (fun x18 h17 hw => ?_)
        refine V.pI hc pI_X11_17 rfl dX11_link_46 (fun h19 e => ?_)
        replace hw := hw h19 e
        clear e
        refine V.aload_n (t := 11) hc dX11_link_49 rfl rfl ?_
        refine V.gR hc gR_X11_20 (i' := o) rfl dX11_link_50 ?_
        refine V.iconst hc dX11_link_53 ?_
        refine V.dup2 hc dX11_link_54 (by simp) (by simp) ?_
        refine V.ald hc ak_46 (by omega) dX11_link_55 ?_
        refine V.iconst hc dX11_link_56 ?_
        refine V.iadd hc dX11_link_57 ?_
        refine V.ast hc ak_46 (by omega) dX11_link_58 (fun h20 e => ?_)
        replace hw := hw h20 e
        clear e
        refine V.iload_n hc dX11_link_59 rfl rfl ?_
        exact V.iret hc hr dX11_link_60 hw
    · replace hw := hw.2 c5
      exact absurd hw (hX _ _)
theorem qX11_count (G : GG) (l : Launch) (o : Int) (a1 : Int) (h : HP) (P : Int → HP → Prop) (X : Nat → HP → Prop) (hX : ∀ (k : Nat) (h : HP), ¬ X k h) (hw : wX11_count o a1 h P X) : CnI l G yX11_count cX11_count 2 (some .int) 4 [(21, o), (0, a1)] h P := by
  refine CnI.of (lo := [(21, o), (0, a1)]) (by decide) rfl rfl rfl ?_
  intro p e s m args below meth c hc hr
  have hc : VC G p (rmD 4 0) s m args meth c RX11 cX11_count 2 4 := hc
  refine V.iload_n hc dX11_count_0 rfl rfl ?_
  obtain ⟨g1, hw⟩ := hw
  by_cases c2 : a1 = 0
  · replace hw := hw.1 c2
    refine V.tswIn hc 0 c2 (by decide) (by decide) (by decide) (tgt := 88) dX11_count_1 rfl (by decide) ?_
    refine V.aload_n (t := 11) hc dX11_count_88 rfl rfl ?_
    refine V.gR hc gR_X11_26 (i' := 1) rfl dX11_count_89 ?_
    refine V.gI hc gI_X11_150 rfl dX11_count_92 ?_
    exact V.iret hc hr dX11_count_95 hw
  replace hw := hw.2 c2
  by_cases c3 : a1 = 1
  · replace hw := hw.1 c3
    refine V.tswIn hc 1 c3 (by decide) (by decide) (by decide) (tgt := 96) dX11_count_1 rfl (by decide) ?_
    refine V.aload_n (t := 11) hc dX11_count_96 rfl rfl ?_
    refine V.gR hc gR_X11_26 (i' := 1) rfl dX11_count_97 ?_
    refine V.gI hc gI_X11_153 rfl dX11_count_100 ?_
    exact V.iret hc hr dX11_count_103 hw
  replace hw := hw.2 c3
  by_cases c4 : a1 = 2
  · replace hw := hw.1 c4
    refine V.tswIn hc 2 c4 (by decide) (by decide) (by decide) (tgt := 104) dX11_count_1 rfl (by decide) ?_
    refine V.aload_n (t := 11) hc dX11_count_104 rfl rfl ?_
    refine V.gR hc gR_X11_47 (i' := 10) rfl dX11_count_105 ?_
    refine V.gI hc gI_X11_156 rfl dX11_count_108 ?_
    exact V.iret hc hr dX11_count_111 hw
  replace hw := hw.2 c4
  by_cases c5 : a1 = 3
  · replace hw := hw.1 c5
    refine V.tswIn hc 3 c5 (by decide) (by decide) (by decide) (tgt := 112) dX11_count_1 rfl (by decide) ?_
    refine V.aload_n (t := 11) hc dX11_count_112 rfl rfl ?_
    refine V.gR hc gR_X11_47 (i' := 10) rfl dX11_count_113 ?_
    refine V.gI hc gI_X11_159 rfl dX11_count_116 ?_
    exact V.iret hc hr dX11_count_119 hw
  replace hw := hw.2 c5
  by_cases c6 : a1 = 4
  · replace hw := hw.1 c6
    refine V.tswIn hc 4 c6 (by decide) (by decide) (by decide) (tgt := 120) dX11_count_1 rfl (by decide) ?_
    refine V.aload_n (t := 11) hc dX11_count_120 rfl rfl ?_
    refine V.gR hc gR_X11_47 (i' := 10) rfl dX11_count_121 ?_
    refine V.callVI hc (qX6_activeLeaves G l _ _ _ hw) mo_X6_activeLeaves ml_X11_162 (by rfl) rfl rfl (as := []) rfl rfl rfl rfl rfl ⟨Nat.zero_le _, Nat.zero_le _⟩ dX11_count_124 (fun x8 h7 hw => ?_)
    exact V.iret hc hr dX11_count_127 hw
  replace hw := hw.2 c6
  by_cases c9 : a1 = 5
  · replace hw := hw.1 c9
    refine V.tswIn hc 5 c9 (by decide) (by decide) (by decide) (tgt := 128) dX11_count_1 rfl (by decide) ?_
    refine V.aload_n (t := 11) hc dX11_count_128 rfl rfl ?_
    refine V.gR hc gR_X11_47 (i' := 10) rfl dX11_count_129 ?_
    refine V.gR hc gR_X11_165 (i' := 10) rfl dX11_count_132 ?_
    refine V.bipush hc dX11_count_135 (by decide) ?_
    refine V.ald hc ak_29 (by omega) dX11_count_137 ?_
    exact V.iret hc hr dX11_count_138 hw
  replace hw := hw.2 c9
  by_cases c10 : a1 = 6
  · replace hw := hw.1 c10
    refine V.tswIn hc 6 c10 (by decide) (by decide) (by decide) (tgt := 139) dX11_count_1 rfl (by decide) ?_
    refine V.aload_n (t := 11) hc dX11_count_139 rfl rfl ?_
    refine V.gR hc gR_X11_47 (i' := 10) rfl dX11_count_140 ?_
    refine V.gI hc gI_X11_168 rfl dX11_count_143 ?_
    exact V.iret hc hr dX11_count_146 hw
  replace hw := hw.2 c10
  by_cases c11 : a1 = 7
  · replace hw := hw.1 c11
    refine V.tswIn hc 7 c11 (by decide) (by decide) (by decide) (tgt := 147) dX11_count_1 rfl (by decide) ?_
    refine V.aload_n (t := 11) hc dX11_count_147 rfl rfl ?_
    refine V.gR hc gR_X11_47 (i' := 10) rfl dX11_count_148 ?_
    refine V.gI hc gI_X11_171 rfl dX11_count_151 ?_
    exact V.iret hc hr dX11_count_154 hw
  replace hw := hw.2 c11
  by_cases c12 : a1 = 8
  · replace hw := hw.1 c12
    refine V.tswIn hc 8 c12 (by decide) (by decide) (by decide) (tgt := 155) dX11_count_1 rfl (by decide) ?_
    refine V.aload_n (t := 11) hc dX11_count_155 rfl rfl ?_
    refine V.gR hc gR_X11_47 (i' := 10) rfl dX11_count_156 ?_
    refine V.callVI hc (qX6_allLost G l _ _ _ hw) mo_X6_allLost ml_X11_174 (by rfl) rfl rfl (as := []) rfl rfl rfl rfl rfl ⟨Nat.zero_le _, Nat.zero_le _⟩ dX11_count_159 (fun x14 h13 hw => ?_)
    exact V.iret hc hr dX11_count_162 hw
  replace hw := hw.2 c12
  by_cases c15 : a1 = 9
  · replace hw := hw.1 c15
    refine V.tswIn hc 9 c15 (by decide) (by decide) (by decide) (tgt := 163) dX11_count_1 rfl (by decide) ?_
    refine V.aload_n (t := 11) hc dX11_count_163 rfl rfl ?_
    refine V.gR hc gR_X11_47 (i' := 10) rfl dX11_count_164 ?_
    refine V.gR hc gR_X11_177 (i' := 10) rfl dX11_count_167 ?_
    refine V.bipush hc dX11_count_170 (by decide) ?_
    refine V.ald hc ak_27 (by omega) dX11_count_172 ?_
    exact V.iret hc hr dX11_count_173 hw
  replace hw := hw.2 c15
  by_cases c16 : a1 = 10
  · replace hw := hw.1 c16
    refine V.tswIn hc 10 c16 (by decide) (by decide) (by decide) (tgt := 174) dX11_count_1 rfl (by decide) ?_
    refine V.aload_n (t := 11) hc dX11_count_174 rfl rfl ?_
    refine V.gR hc gR_X11_47 (i' := 10) rfl dX11_count_175 ?_
    refine V.callVI hc (qX6_allSent G l _ _ _ hw) mo_X6_allSent ml_X11_180 (by rfl) rfl rfl (as := []) rfl rfl rfl rfl rfl ⟨Nat.zero_le _, Nat.zero_le _⟩ dX11_count_178 (fun x18 h17 hw => ?_)
    exact V.iret hc hr dX11_count_181 hw
  replace hw := hw.2 c16
  by_cases c19 : a1 = 11
  · replace hw := hw.1 c19
    refine V.tswIn hc 11 c19 (by decide) (by decide) (by decide) (tgt := 182) dX11_count_1 rfl (by decide) ?_
    refine V.aload_n (t := 11) hc dX11_count_182 rfl rfl ?_
    refine V.gR hc gR_X11_47 (i' := 10) rfl dX11_count_183 ?_
    refine V.gI hc gI_X11_183 rfl dX11_count_186 ?_
    exact V.iret hc hr dX11_count_189 hw
  replace hw := hw.2 c19
  by_cases c20 : a1 = 12
  · replace hw := hw.1 c20
    refine V.tswIn hc 12 c20 (by decide) (by decide) (by decide) (tgt := 190) dX11_count_1 rfl (by decide) ?_
    refine V.aload_n (t := 11) hc dX11_count_190 rfl rfl ?_
    refine V.gR hc gR_X11_54 (i' := 3) rfl dX11_count_191 ?_
    refine V.callVI hc (qX5_size G l _ _ _ hw) mo_X5_size ml_X11_186 (by rfl) rfl rfl (as := []) rfl rfl rfl rfl rfl ⟨Nat.zero_le _, Nat.zero_le _⟩ dX11_count_194 (fun x22 h21 hw => ?_)
    exact V.iret hc hr dX11_count_197 hw
  replace hw := hw.2 c20
  by_cases c23 : a1 = 13
  · replace hw := hw.1 c23
    refine V.tswIn hc 13 c23 (by decide) (by decide) (by decide) (tgt := 198) dX11_count_1 rfl (by decide) ?_
    refine V.aload_n (t := 11) hc dX11_count_198 rfl rfl ?_
    refine V.gR hc gR_X11_61 (i' := 5) rfl dX11_count_199 ?_
    refine V.gI hc gI_X11_189 rfl dX11_count_202 ?_
    exact V.iret hc hr dX11_count_205 hw
  replace hw := hw.2 c23
  by_cases c24 : a1 = 14
  · replace hw := hw.1 c24
    refine V.tswIn hc 14 c24 (by decide) (by decide) (by decide) (tgt := 206) dX11_count_1 rfl (by decide) ?_
    refine V.aload_n (t := 11) hc dX11_count_206 rfl rfl ?_
    refine V.gI hc gI_X11_13 rfl dX11_count_207 ?_
    exact V.iret hc hr dX11_count_210 hw
  replace hw := hw.2 c24
  by_cases c25 : a1 = 15
  · replace hw := hw.1 c25
    refine V.tswIn hc 15 c25 (by decide) (by decide) (by decide) (tgt := 211) dX11_count_1 rfl (by decide) ?_
    refine V.aload_n (t := 11) hc dX11_count_211 rfl rfl ?_
    refine V.gR hc gR_X11_20 (i' := o) rfl dX11_count_212 ?_
    refine V.iconst hc dX11_count_215 ?_
    refine V.ald hc ak_46 (by omega) dX11_count_216 ?_
    exact V.iret hc hr dX11_count_217 hw
  replace hw := hw.2 c25
  by_cases c26 : a1 = 16
  · replace hw := hw.1 c26
    refine V.tswIn hc 16 c26 (by decide) (by decide) (by decide) (tgt := 218) dX11_count_1 rfl (by decide) ?_
    refine V.aload_n (t := 11) hc dX11_count_218 rfl rfl ?_
    refine V.gR hc gR_X11_20 (i' := o) rfl dX11_count_219 ?_
    refine V.iconst hc dX11_count_222 ?_
    refine V.ald hc ak_46 (by omega) dX11_count_223 ?_
    exact V.iret hc hr dX11_count_224 hw
  replace hw := hw.2 c26
  by_cases c27 : a1 = 17
  · replace hw := hw.1 c27
    refine V.tswIn hc 17 c27 (by decide) (by decide) (by decide) (tgt := 225) dX11_count_1 rfl (by decide) ?_
    refine V.aload_n (t := 11) hc dX11_count_225 rfl rfl ?_
    refine V.gR hc gR_X11_20 (i' := o) rfl dX11_count_226 ?_
    refine V.iconst hc dX11_count_229 ?_
    refine V.ald hc ak_46 (by omega) dX11_count_230 ?_
    exact V.iret hc hr dX11_count_231 hw
  replace hw := hw.2 c27
  refine V.tswOut hc (tgt := 232) g1 dX11_count_1 (by omega) (by decide) ?_
  exact absurd hw (hX _ _)
theorem qX11_needClass (G : GG) (l : Launch) (o : Int) (a1 : Int) (h : HP) (P : HP → Prop) (X : Nat → HP → Prop) (hX : ∀ (k : Nat) (h : HP), ¬ X k h) (hw : wX11_needClass o a1 h P X) : CnV l G yX11_needClass cX11_needClass 2 2 [(21, o), (0, a1)] h P := by
  refine CnV.of (lo := [(21, o), (0, a1)]) (by decide) rfl rfl rfl ?_
  intro p e s m args below meth c hc hr
  have hc : VC G p (rmD 2 0) s m args meth c RX11 cX11_needClass 2 2 := hc
  refine V.aload_n (t := 11) hc dX11_needClass_0 rfl rfl ?_
  refine V.gR hc gR_X11_26 (i' := 1) rfl dX11_needClass_1 ?_
  refine V.iload_n hc dX11_needClass_4 rfl rfl ?_
  refine V.callVI hc (qX8_hasClass G l _ _ _ _ hw) mo_X8_hasClass ml_X11_278 (by rfl) rfl rfl (as := [(0, a1)]) rfl rfl rfl rfl rfl ⟨Nat.zero_le _, Nat.zero_le _⟩ dX11_needClass_5 (fun x2 h1 hw => ?_)
  obtain ⟨g3, hw⟩ := hw
  refine V.if_ne hc (tgt := 19) dX11_needClass_8 (by decide) g3 (fun c4 => ?_) (fun c4 => ?_)
  · replace hw := hw.1 c4
    exact V.vret hc hr dX11_needClass_19 hw
  · replace hw := hw.2 c4
    exact absurd hw (hX _ _)
theorem qX11_of (G : GG) (l : Launch) (o : Int) (a1 : Int) (a2 : Int) (h : HP) (P : Int → HP → Prop) (X : Nat → HP → Prop) (hX : ∀ (k : Nat) (h : HP), ¬ X k h) (hw : wX11_of o a1 a2 h P X) : CnI l G yX11_of cX11_of 3 (some .int) 4 [(21, o), (0, a1), (0, a2)] h P := by
  refine CnI.of (lo := [(21, o), (0, a1), (0, a2)]) (by decide) rfl rfl rfl ?_
  intro p e s m args below meth c hc hr
  have hc : VC G p (rmD 4 0) s m args meth c RX11 cX11_of 3 4 := hc
  refine V.aload_n (t := 11) hc dX11_of_0 rfl rfl ?_
  refine V.iload_n hc dX11_of_1 rfl rfl ?_
  refine V.callVV hc (qX11_needClass G l _ _ _ _ _ hX hw) mo_X11_needClass ml_X11_195 (by rfl) rfl rfl (as := [(0, a1)]) rfl rfl rfl rfl rfl ⟨Nat.zero_le _, Nat.zero_le _⟩ dX11_of_2 (fun h1 hw => ?_)
  refine V.iload_n hc dX11_of_5 rfl rfl ?_
  obtain ⟨g2, hw⟩ := hw
  by_cases c3 : a2 = 0
  · replace hw := hw.1 c3
    refine V.tswIn hc 0 c3 (by decide) (by decide) (by decide) (tgt := 60) dX11_of_6 rfl (by decide) ?_
    refine V.aload_n (t := 11) hc dX11_of_60 rfl rfl ?_
    refine V.gR hc gR_X11_26 (i' := 1) rfl dX11_of_61 ?_
    refine V.gR hc gR_X11_198 (i' := 1) rfl dX11_of_64 ?_
    refine V.iload_n hc dX11_of_67 rfl rfl ?_
    obtain ⟨g4, hw⟩ := hw
    refine V.ald hc ak_37 g4 dX11_of_68 ?_
    refine V.bipush hc dX11_of_69 (by decide) ?_
    obtain ⟨q8, hw⟩ := hw
    have kJ9 : ∀ t7 : Int, ((¬ h1 37 1 a1 = 12 → t7 = h1 37 1 a1) ∧ (h1 37 1 a1 = 12 → t7 = (-1))) → V G p l e (rmD 4 0) s m args below meth c (MQ below (QI G P) args s 0 0 (va_Aof G)) 3 87 [(1, 0), (1, 0), (1, 0)] [(0, t7)] h1 0 := by
      intro t7 he
      replace hw := hw t7 he
      clear he
      exact V.iret hc hr dX11_of_87 hw
    obtain ⟨g5, q10⟩ := q8
    refine V.icmp_ne hc (tgt := 78) dX11_of_71 (by decide) g5 (by omega) (fun c11 => ?_) (fun c11 => ?_)
    · have q12 := q10 c11
      have g6 := q12
      refine V.aload_n (t := 11) hc dX11_of_78 rfl rfl ?_
      refine V.gR hc gR_X11_26 (i' := 1) rfl dX11_of_79 ?_
      refine V.gR hc gR_X11_198 (i' := 1) rfl dX11_of_82 ?_
      refine V.iload_n hc dX11_of_85 rfl rfl ?_
      refine V.ald hc ak_37 g6 dX11_of_86 ?_
      refine V.drop (lo' := [(1, 0), (1, 0), (1, 0)]) ⟨Or.inl rfl, Or.inl rfl, Or.inl rfl, trivial⟩ ?_
      exact kJ9 _ ⟨fun _ => rfl, (fun q => absurd q c11)⟩
    · refine V.iconst hc dX11_of_74 ?_
      refine V.goto hc (tgt := 87) dX11_of_75 (by decide) ?_
      refine V.drop (lo' := [(1, 0), (1, 0), (1, 0)]) ⟨Or.inl rfl, Or.inl rfl, Or.inl rfl, trivial⟩ ?_
      exact kJ9 _ ⟨(fun q => absurd c11 q), fun _ => rfl⟩
  replace hw := hw.2 c3
  by_cases c13 : a2 = 1
  · replace hw := hw.1 c13
    refine V.tswIn hc 1 c13 (by decide) (by decide) (by decide) (tgt := 88) dX11_of_6 rfl (by decide) ?_
    refine V.aload_n (t := 11) hc dX11_of_88 rfl rfl ?_
    refine V.gR hc gR_X11_26 (i' := 1) rfl dX11_of_89 ?_
    refine V.iload_n hc dX11_of_92 rfl rfl ?_
    refine V.callVI hc (qX8_isLeaf G l _ _ _ _ hw) mo_X8_isLeaf ml_X11_201 (by rfl) rfl rfl (as := [(0, a1)]) rfl rfl rfl rfl rfl ⟨Nat.zero_le _, Nat.zero_le _⟩ dX11_of_93 (fun x15 h14 hw => ?_)
    obtain ⟨q18, hw⟩ := hw
    have kJ19 : ∀ t17 : Int, ((x15 = 0 → t17 = 0) ∧ (¬ x15 = 0 → t17 = 1)) → V G p l e (rmD 4 0) s m args below meth c (MQ below (QI G P) args s 0 0 (va_Aof G)) 3 104 [(1, 0), (1, 0), (1, 0)] [(0, t17)] h14 0 := by
      intro t17 he
      replace hw := hw t17 he
      clear he
      exact V.iret hc hr dX11_of_104 hw
    have g16 := q18
    refine V.if_eq hc (tgt := 103) dX11_of_96 (by decide) g16 (fun c20 => ?_) (fun c20 => ?_)
    · refine V.iconst hc dX11_of_103 ?_
      refine V.drop (lo' := [(1, 0), (1, 0), (1, 0)]) ⟨Or.inl rfl, Or.inl rfl, Or.inl rfl, trivial⟩ ?_
      exact kJ19 _ ⟨fun _ => rfl, (fun q => absurd c20 q)⟩
    · refine V.iconst hc dX11_of_99 ?_
      refine V.goto hc (tgt := 104) dX11_of_100 (by decide) ?_
      refine V.drop (lo' := [(1, 0), (1, 0), (1, 0)]) ⟨Or.inl rfl, Or.inl rfl, Or.inl rfl, trivial⟩ ?_
      exact kJ19 _ ⟨(fun q => absurd q c20), fun _ => rfl⟩
  replace hw := hw.2 c13
  by_cases c21 : a2 = 2
  · replace hw := hw.1 c21
    refine V.tswIn hc 2 c21 (by decide) (by decide) (by decide) (tgt := 105) dX11_of_6 rfl (by decide) ?_
    refine V.aload_n (t := 11) hc dX11_of_105 rfl rfl ?_
    refine V.gR hc gR_X11_47 (i' := 10) rfl dX11_of_106 ?_
    refine V.iload_n hc dX11_of_109 rfl rfl ?_
    refine V.callVI hc (qX6_isActive G l _ _ _ _ hw) mo_X6_isActive ml_X11_205 (by rfl) rfl rfl (as := [(0, a1)]) rfl rfl rfl rfl rfl ⟨Nat.zero_le _, Nat.zero_le _⟩ dX11_of_110 (fun x23 h22 hw => ?_)
    obtain ⟨q26, hw⟩ := hw
    have kJ27 : ∀ t25 : Int, ((x23 = 0 → t25 = 0) ∧ (¬ x23 = 0 → t25 = 1)) → V G p l e (rmD 4 0) s m args below meth c (MQ below (QI G P) args s 0 0 (va_Aof G)) 3 121 [(1, 0), (1, 0), (1, 0)] [(0, t25)] h22 0 := by
      intro t25 he
      replace hw := hw t25 he
      clear he
      exact V.iret hc hr dX11_of_121 hw
    have g24 := q26
    refine V.if_eq hc (tgt := 120) dX11_of_113 (by decide) g24 (fun c28 => ?_) (fun c28 => ?_)
    · refine V.iconst hc dX11_of_120 ?_
      refine V.drop (lo' := [(1, 0), (1, 0), (1, 0)]) ⟨Or.inl rfl, Or.inl rfl, Or.inl rfl, trivial⟩ ?_
      exact kJ27 _ ⟨fun _ => rfl, (fun q => absurd c28 q)⟩
    · refine V.iconst hc dX11_of_116 ?_
      refine V.goto hc (tgt := 121) dX11_of_117 (by decide) ?_
      refine V.drop (lo' := [(1, 0), (1, 0), (1, 0)]) ⟨Or.inl rfl, Or.inl rfl, Or.inl rfl, trivial⟩ ?_
      exact kJ27 _ ⟨(fun q => absurd q c28), fun _ => rfl⟩
  replace hw := hw.2 c21
  by_cases c29 : a2 = 3
  · replace hw := hw.1 c29
    refine V.tswIn hc 3 c29 (by decide) (by decide) (by decide) (tgt := 122) dX11_of_6 rfl (by decide) ?_
    refine V.aload_n (t := 11) hc dX11_of_122 rfl rfl ?_
    refine V.gR hc gR_X11_47 (i' := 10) rfl dX11_of_123 ?_
    refine V.gR hc gR_X11_208 (i' := 10) rfl dX11_of_126 ?_
    refine V.iload_n hc dX11_of_129 rfl rfl ?_
    obtain ⟨g30, hw⟩ := hw
    refine V.ald hc ak_24 g30 dX11_of_130 ?_
    exact V.iret hc hr dX11_of_131 hw
  replace hw := hw.2 c29
  by_cases c31 : a2 = 4
  · replace hw := hw.1 c31
    refine V.tswIn hc 4 c31 (by decide) (by decide) (by decide) (tgt := 132) dX11_of_6 rfl (by decide) ?_
    refine V.aload_n (t := 11) hc dX11_of_132 rfl rfl ?_
    refine V.gR hc gR_X11_47 (i' := 10) rfl dX11_of_133 ?_
    refine V.gR hc gR_X11_211 (i' := 10) rfl dX11_of_136 ?_
    refine V.iload_n hc dX11_of_139 rfl rfl ?_
    obtain ⟨g32, hw⟩ := hw
    refine V.ald hc ak_25 g32 dX11_of_140 ?_
    exact V.iret hc hr dX11_of_141 hw
  replace hw := hw.2 c31
  by_cases c33 : a2 = 5
  · replace hw := hw.1 c33
    refine V.tswIn hc 5 c33 (by decide) (by decide) (by decide) (tgt := 142) dX11_of_6 rfl (by decide) ?_
    refine V.aload_n (t := 11) hc dX11_of_142 rfl rfl ?_
    refine V.gR hc gR_X11_47 (i' := 10) rfl dX11_of_143 ?_
    refine V.gR hc gR_X11_214 (i' := 10) rfl dX11_of_146 ?_
    refine V.iload_n hc dX11_of_149 rfl rfl ?_
    obtain ⟨g34, hw⟩ := hw
    refine V.ald hc ak_26 g34 dX11_of_150 ?_
    exact V.iret hc hr dX11_of_151 hw
  replace hw := hw.2 c33
  by_cases c35 : a2 = 6
  · replace hw := hw.1 c35
    refine V.tswIn hc 6 c35 (by decide) (by decide) (by decide) (tgt := 152) dX11_of_6 rfl (by decide) ?_
    refine V.aload_n (t := 11) hc dX11_of_152 rfl rfl ?_
    refine V.gR hc gR_X11_47 (i' := 10) rfl dX11_of_153 ?_
    refine V.gR hc gR_X11_177 (i' := 10) rfl dX11_of_156 ?_
    refine V.iload_n hc dX11_of_159 rfl rfl ?_
    obtain ⟨g36, hw⟩ := hw
    refine V.ald hc ak_27 g36 dX11_of_160 ?_
    exact V.iret hc hr dX11_of_161 hw
  replace hw := hw.2 c35
  by_cases c37 : a2 = 7
  · replace hw := hw.1 c37
    refine V.tswIn hc 7 c37 (by decide) (by decide) (by decide) (tgt := 162) dX11_of_6 rfl (by decide) ?_
    refine V.aload_n (t := 11) hc dX11_of_162 rfl rfl ?_
    refine V.gR hc gR_X11_47 (i' := 10) rfl dX11_of_163 ?_
    refine V.gR hc gR_X11_217 (i' := 10) rfl dX11_of_166 ?_
    refine V.iload_n hc dX11_of_169 rfl rfl ?_
    obtain ⟨g38, hw⟩ := hw
    refine V.ald hc ak_28 g38 dX11_of_170 ?_
    exact V.iret hc hr dX11_of_171 hw
  replace hw := hw.2 c37
  by_cases c39 : a2 = 8
  · replace hw := hw.1 c39
    refine V.tswIn hc 8 c39 (by decide) (by decide) (by decide) (tgt := 172) dX11_of_6 rfl (by decide) ?_
    refine V.aload_n (t := 11) hc dX11_of_172 rfl rfl ?_
    refine V.gR hc gR_X11_47 (i' := 10) rfl dX11_of_173 ?_
    refine V.iload_n hc dX11_of_176 rfl rfl ?_
    refine V.callVI hc (qX6_packets G l _ _ _ _ hw) mo_X6_packets ml_X11_220 (by rfl) rfl rfl (as := [(0, a1)]) rfl rfl rfl rfl rfl ⟨Nat.zero_le _, Nat.zero_le _⟩ dX11_of_177 (fun x41 h40 hw => ?_)
    exact V.iret hc hr dX11_of_180 hw
  replace hw := hw.2 c39
  by_cases c42 : a2 = 9
  · replace hw := hw.1 c42
    refine V.tswIn hc 9 c42 (by decide) (by decide) (by decide) (tgt := 181) dX11_of_6 rfl (by decide) ?_
    refine V.aload_n (t := 11) hc dX11_of_181 rfl rfl ?_
    refine V.gR hc gR_X11_47 (i' := 10) rfl dX11_of_182 ?_
    refine V.iload_n hc dX11_of_185 rfl rfl ?_
    refine V.callVI hc (qX6_bytes G l _ _ _ _ hw) mo_X6_bytes ml_X11_223 (by rfl) rfl rfl (as := [(0, a1)]) rfl rfl rfl rfl rfl ⟨Nat.zero_le _, Nat.zero_le _⟩ dX11_of_186 (fun x44 h43 hw => ?_)
    exact V.iret hc hr dX11_of_189 hw
  replace hw := hw.2 c42
  refine V.tswOut hc (tgt := 190) g2 dX11_of_6 (by omega) (by decide) ?_
  exact absurd hw (hX _ _)
