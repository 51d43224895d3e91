theorem tX9_read_93 {G : GG} {p : Program} {l : Launch} {e : Jvm.Env} {s : State} {m : MethodId} {args : Array Value} {below : List Frame} {meth : Method} {c : Code} {P : Int → HP → Prop} (hc : VC G p (rmD 14 0) s m args meth c RX9 cX9_read 4 14) (hr : meth.sig.returnType = some .int) {o : Int} {a1 : Int} {l2 : Int} {l3 : Int} {h : HP} {K23 : Int → HP → Prop} {K97 : Int → HP → Prop} (hK23 : ∀ (x2 : Int) (h : HP), K23 x2 h → V G p l e (rmD 14 0) s m args below meth c (MQ below (QI G P) args s 0 0 (va_Aof G)) 4 23 [(19, o), (1, 0), (0, x2), (1, 0)] [] h 0) (hK97 : ∀ (x3 : Int) (h : HP), K97 x3 h → V G p l e (rmD 14 0) s m args below meth c (MQ below (QI G P) args s 0 0 (va_Aof G)) 4 97 [(1, 0), (1, 0), (1, 0), (0, x3)] [] h 0) (hw : wX9_read_93 o a1 l2 l3 K23 K97 h) : V G p l e (rmD 14 0) s m args below meth c (MQ below (QI G P) args s 0 0 (va_Aof G)) 4 93 [(19, o), (1, 0), (0, l2), (0, l3)] [] h 0 := by
  refine V.iload_n hc dX9_read_93 rfl rfl ?_
  obtain ⟨g14, hw⟩ := hw
  refine V.if_eq hc (tgt := 99) dX9_read_94 (by decide) g14 (fun c15 => ?_) (fun c15 => ?_)
  · replace hw := hw.1 c15
    refine V.aload_n (t := 9) hc dX9_read_99 rfl rfl ?_
    refine V.callVV hc (qX9_takeToken G l _ _ _ hw) mo_X9_takeToken ml_X9_40 (by rfl) rfl rfl (as := []) rfl rfl rfl rfl rfl ⟨Nat.zero_le _, Nat.zero_le _⟩ dX9_read_100 (fun h16 hw => ?_)
    refine V.iinc hc dX9_read_103 rfl rfl (lo' := [(19, o), (1, 0), (0, l2 + 1), (0, l3)]) rfl ?_
    refine V.goto hc (tgt := 23) dX9_read_106 (by decide) ?_
    refine V.drop (lo' := [(19, o), (1, 0), (0, l2 + 1), (1, 0)]) ⟨Or.inr rfl, Or.inr rfl, Or.inr rfl, Or.inl rfl, trivial⟩ ?_
    exact hK23 _ _ hw
  · replace hw := hw.2 c15
    refine V.drop (lo' := [(1, 0), (1, 0), (1, 0), (0, l3)]) ⟨Or.inl rfl, Or.inr rfl, Or.inl rfl, Or.inr rfl, trivial⟩ ?_
    exact hK97 _ _ hw
theorem tX9_read_76 {G : GG} {p : Program} {l : Launch} {e : Jvm.Env} {s : State} {m : MethodId} {args : Array Value} {below : List Frame} {meth : Method} {c : Code} {P : Int → HP → Prop} (hc : VC G p (rmD 14 0) s m args meth c RX9 cX9_read 4 14) (hr : meth.sig.returnType = some .int) {o : Int} {a1 : Int} {l2 : Int} {s0 : Int} {h : HP} {K23 : Int → HP → Prop} {K97 : Int → HP → Prop} (hK23 : ∀ (x2 : Int) (h : HP), K23 x2 h → V G p l e (rmD 14 0) s m args below meth c (MQ below (QI G P) args s 0 0 (va_Aof G)) 4 23 [(19, o), (1, 0), (0, x2), (1, 0)] [] h 0) (hK97 : ∀ (x3 : Int) (h : HP), K97 x3 h → V G p l e (rmD 14 0) s m args below meth c (MQ below (QI G P) args s 0 0 (va_Aof G)) 4 97 [(1, 0), (1, 0), (1, 0), (0, x3)] [] h 0) (hw : wX9_read_76 o a1 l2 s0 K23 K97 h) : V G p l e (rmD 14 0) s m args below meth c (MQ below (QI G P) args s 0 0 (va_Aof G)) 4 76 [(19, o), (1, 0), (0, l2), (1, 0)] [(0, s0)] h 0 := by
  refine V.istore_n hc dX9_read_76 rfl rfl (lo' := [(19, o), (1, 0), (0, l2), (0, s0)]) rfl ?_
  refine V.goto hc (tgt := 93) dX9_read_77 (by decide) ?_
  exact tX9_read_93 hc hr (fun y2 hy hw => by exact hK23 _ _ hw) (fun y3 hy hw => by exact hK97 _ _ hw) hw
theorem tX9_read_23 {G : GG} {p : Program} {l : Launch} {e : Jvm.Env} {s : State} {m : MethodId} {args : Array Value} {below : List Frame} {meth : Method} {c : Code} {P : Int → HP → Prop} (hc : VC G p (rmD 14 0) s m args meth c RX9 cX9_read 4 14) (hr : meth.sig.returnType = some .int) {o : Int} {a1 : Int} {K109 : HP → Prop} {K97 : Int → HP → Prop} (hK109 : ∀  (h : HP), K109  h → V G p l e (rmD 14 0) s m args below meth c (MQ below (QI G P) args s 0 0 (va_Aof G)) 4 109 [(1, 0), (1, 0), (1, 0), (1, 0)] [] h 0) (hK97 : ∀ (x3 : Int) (h : HP), K97 x3 h → V G p l e (rmD 14 0) s m args below meth c (MQ below (QI G P) args s 0 0 (va_Aof G)) 4 97 [(1, 0), (1, 0), (1, 0), (0, x3)] [] h 0) : ∀ (f : Nat) (l2 : Int) (h : HP), wX9_read_23 o a1 K109 K97 f l2 h → V G p l e (rmD 14 0) s m args below meth c (MQ below (QI G P) args s 0 0 (va_Aof G)) 4 23 [(19, o), (1, 0), (0, l2), (1, 0)] [] h 0 := by
  intro f
  induction f with
  | zero =>
    intro l2 h hw
    exact hw.elim
  | succ f ih =>
    intro l2 h hw
    refine V.iload_n hc dX9_read_23 rfl rfl ?_
    refine V.aload_n (t := 9) hc dX9_read_24 rfl rfl ?_
    refine V.gI hc gI_X9_9 rfl dX9_read_25 ?_
    obtain ⟨g5, hw⟩ := hw
    obtain ⟨g6, hw⟩ := hw
    refine V.icmp_gt hc (tgt := 109) dX9_read_28 (by decide) g5 g6 (fun c7 => ?_) (fun c7 => ?_)
    · replace hw := hw.1 c7
      refine V.drop (lo' := [(1, 0), (1, 0), (1, 0), (1, 0)]) ⟨Or.inl rfl, Or.inr rfl, Or.inl rfl, Or.inr rfl, trivial⟩ ?_
      exact hK109 _ hw
    · replace hw := hw.2 c7
      refine V.aload_n (t := 9) hc dX9_read_31 rfl rfl ?_
      refine V.gI hc gI_X9_21 rfl dX9_read_32 ?_
      obtain ⟨g8, hw⟩ := hw
      refine V.if_eq hc (tgt := 109) dX9_read_35 (by decide) g8 (fun c9 => ?_) (fun c9 => ?_)
      · replace hw := hw.1 c9
        refine V.drop (lo' := [(1, 0), (1, 0), (1, 0), (1, 0)]) ⟨Or.inl rfl, Or.inr rfl, Or.inl rfl, Or.inr rfl, trivial⟩ ?_
        exact hK109 _ hw
      · replace hw := hw.2 c9
        refine V.iconst hc dX9_read_38 ?_
        refine V.istore_n hc dX9_read_39 rfl rfl (lo' := [(19, o), (1, 0), (0, l2), (0, 1)]) rfl ?_
        refine V.aload_n (t := 9) hc dX9_read_40 rfl rfl ?_
        refine V.gI hc gI_X9_21 rfl dX9_read_41 ?_
        refine V.iconst hc dX9_read_44 ?_
        obtain ⟨g10, hw⟩ := hw
        refine V.icmp_ne hc (tgt := 80) dX9_read_45 (by decide) g10 (by omega) (fun c11 => ?_) (fun c11 => ?_)
        · replace hw := hw.1 c11
          refine V.aload_n (t := 9) hc dX9_read_80 rfl rfl ?_
          refine V.gI hc gI_X9_21 rfl dX9_read_81 ?_
          refine V.iconst hc dX9_read_84 ?_
          obtain ⟨g12, hw⟩ := hw
          refine V.icmp_ne hc (tgt := 93) dX9_read_85 (by decide) g12 (by omega) (fun c13 => ?_) (fun c13 => ?_)
          · replace hw := hw.1 c13
            exact tX9_read_93 hc hr (fun y2 hy hw => by exact ih _ _ hw) (fun y3 hy hw => by exact hK97 _ _ hw) hw
          · replace hw := hw.2 c13
            refine V.aload_n (t := 9) hc dX9_read_88 rfl rfl ?_
            refine V.callVI hc (qX9_readFlow G l _ _ _ hw) mo_X9_readFlow ml_X9_54 (by rfl) rfl rfl (as := []) rfl rfl rfl rfl rfl ⟨Nat.zero_le _, Nat.zero_le _⟩ dX9_read_89 (fun x18 h17 hw => ?_)
            refine V.istore_n hc dX9_read_92 rfl rfl (lo' := [(19, o), (1, 0), (0, l2), (0, x18)]) rfl ?_
            exact tX9_read_93 hc hr (fun y2 hy hw => by exact ih _ _ hw) (fun y3 hy hw => by exact hK97 _ _ hw) hw
        · replace hw := hw.2 c11
          refine V.aload_n (t := 9) hc dX9_read_48 rfl rfl ?_
          refine V.callVI hc (qX9_readClass G l _ _ _ hw) mo_X9_readClass ml_X9_43 (by rfl) rfl rfl (as := []) rfl rfl rfl rfl rfl ⟨Nat.zero_le _, Nat.zero_le _⟩ dX9_read_49 (fun x20 h19 hw => ?_)
          refine V.istore_n hc dX9_read_52 rfl rfl (lo' := [(19, o), (1, 0), (0, l2), (0, x20)]) rfl ?_
          refine V.iload_n hc dX9_read_53 rfl rfl ?_
          obtain ⟨g21, hw⟩ := hw
          refine V.if_ne hc (tgt := 75) dX9_read_54 (by decide) g21 (fun c22 => ?_) (fun c22 => ?_)
          · replace hw := hw.1 c22
            refine V.iload_n hc dX9_read_75 rfl rfl ?_
            refine V.drop (lo' := [(19, o), (1, 0), (0, l2), (1, 0)]) ⟨Or.inr rfl, Or.inr rfl, Or.inr rfl, Or.inl rfl, trivial⟩ ?_
            exact tX9_read_76 hc hr (fun y2 hy hw => by exact ih _ _ hw) (fun y3 hy hw => by exact hK97 _ _ hw) hw
          · replace hw := hw.2 c22
            refine V.aload_n (t := 9) hc dX9_read_57 rfl rfl ?_
            refine V.aload_n (t := 9) hc dX9_read_58 rfl rfl ?_
            refine V.gR hc gR_X9_31 (i' := 2) rfl dX9_read_59 ?_
            refine V.gI hc gI_X9_47 rfl dX9_read_62 ?_
            refine V.iconst hc dX9_read_65 ?_
            refine V.isub hc dX9_read_66 ?_
            refine V.iconst hc dX9_read_67 ?_
            refine V.imul hc dX9_read_68 ?_
            refine V.callVI hc (qX9_readCurves G l _ _ _ _ hw) mo_X9_readCurves ml_X9_50 (by rfl) rfl rfl (as := [(0, ((h19 8 2 0) - 1) * 3)]) rfl rfl rfl rfl rfl ⟨Nat.zero_le _, Nat.zero_le _⟩ dX9_read_69 (fun x24 h23 hw => ?_)
            refine V.goto hc (tgt := 76) dX9_read_72 (by decide) ?_
            refine V.drop (lo' := [(19, o), (1, 0), (0, l2), (1, 0)]) ⟨Or.inr rfl, Or.inr rfl, Or.inr rfl, Or.inl rfl, trivial⟩ ?_
            exact tX9_read_76 hc hr (fun y2 hy hw => by exact ih _ _ hw) (fun y3 hy hw => by exact hK97 _ _ hw) hw
theorem qX9_read (G : GG) (l : Launch) (o : Int) (a1 : Int) (h : HP) (P : Int → HP → Prop) (hw : wX9_read o a1 h P) : CnI l G yX9_read cX9_read 4 (some .int) 14 [(19, o), (0, a1)] h P := by
  refine CnI.of (lo := [(19, o), (0, a1), (1, 0), (1, 0)]) (by decide) rfl rfl rfl ?_
  intro p e s m args below meth c hc hr
  have hc : VC G p (rmD 14 0) s m args meth c RX9 cX9_read 4 14 := hc
  refine V.aload_n (t := 9) hc dX9_read_0 rfl rfl ?_
  refine V.iload_n hc dX9_read_1 rfl rfl ?_
  refine V.pI hc pI_X9_9 rfl dX9_read_2 (fun h1 e => ?_)
  replace hw := hw h1 e
  clear e
  refine V.aload_n (t := 9) hc dX9_read_5 rfl rfl ?_
  refine V.iconst hc dX9_read_6 ?_
  refine V.pI hc pI_X9_18 rfl dX9_read_7 (fun h2 e => ?_)
  replace hw := hw h2 e
  clear e
  refine V.aload_n (t := 9) hc dX9_read_10 rfl rfl ?_
  refine V.gR hc gR_X9_31 (i' := 2) rfl dX9_read_11 ?_
  refine V.callVV hc (qX8_clear G l _ _ _ hw) mo_X8_clear ml_X9_35 (by rfl) rfl rfl (as := []) rfl rfl rfl rfl rfl ⟨Nat.zero_le _, Nat.zero_le _⟩ dX9_read_14 (fun h3 hw => ?_)
  refine V.aload_n (t := 9) hc dX9_read_17 rfl rfl ?_
  refine V.callVV hc (qX9_takeToken G l _ _ _ hw) mo_X9_takeToken ml_X9_40 (by rfl) rfl rfl (as := []) rfl rfl rfl rfl rfl ⟨Nat.zero_le _, Nat.zero_le _⟩ dX9_read_18 (fun h4 hw => ?_)
  refine V.iconst hc dX9_read_21 ?_
  refine V.istore_n hc dX9_read_22 rfl rfl (lo' := [(19, o), (0, a1), (0, 0), (1, 0)]) rfl ?_
  obtain ⟨f25, hw⟩ := hw
  refine V.drop (lo' := [(19, o), (1, 0), (0, 0), (1, 0)]) ⟨Or.inr rfl, Or.inl rfl, Or.inr rfl, Or.inr rfl, trivial⟩ ?_
  refine tX9_read_23 hc hr ?_ ?_ f25 _ _ hw
  · intro h26 hw
    refine V.iconst hc dX9_read_109 ?_
    exact V.iret hc hr dX9_read_110 hw
  · intro l27 h28 hw
    refine V.iload_n hc dX9_read_97 rfl rfl ?_
    exact V.iret hc hr dX9_read_98 hw
theorem qX10_putSign (G : GG) (l : Launch) (o : Int) (a1 : Int) (h : HP) (P : HP → Prop) (hw : wX10_putSign o a1 h P) : CnV l G yX10_putSign cX10_putSign 2 8 [(20, o), (0, a1)] h P := by
  refine CnV.of (lo := [(20, o), (0, a1)]) (by decide) rfl rfl rfl ?_
  intro p e s m args below meth c hc hr
  have hc : VC G p (rmD 8 0) s m args meth c RX10 cX10_putSign 2 8 := hc
  refine V.aload_n (t := 10) hc dX10_putSign_0 rfl rfl ?_
  refine V.gI hc gI_X10_15 rfl dX10_putSign_1 ?_
  refine V.bipush hc dX10_putSign_4 (by decide) ?_
  obtain ⟨g1, hw⟩ := hw
  refine V.icmp_ge hc (tgt := 29) dX10_putSign_6 (by decide) g1 (by omega) (fun c2 => ?_) (fun c2 => ?_)
  · replace hw := hw.1 c2
    exact V.vret hc hr dX10_putSign_29 hw
  · replace hw := hw.2 c2
    refine V.aload_n (t := 10) hc dX10_putSign_9 rfl rfl ?_
    refine V.gR hc gR_X10_11 (i' := o) rfl dX10_putSign_10 ?_
    refine V.aload_n (t := 10) hc dX10_putSign_13 rfl rfl ?_
    refine V.gI hc gI_X10_15 rfl dX10_putSign_14 ?_
    refine V.iload_n hc dX10_putSign_17 rfl rfl ?_
    obtain ⟨g4, hw⟩ := hw
    refine V.ast hc ak_44 g4 dX10_putSign_18 (fun h3 e => ?_)
    replace hw := hw h3 e
    clear e
    refine V.aload_n (t := 10) hc dX10_putSign_19 rfl rfl ?_
    refine V.dup hc dX10_putSign_20 (by simp) ?_
    refine V.gI hc gI_X10_15 rfl dX10_putSign_21 ?_
    refine V.iconst hc dX10_putSign_24 ?_
    refine V.iadd hc dX10_putSign_25 ?_
    refine V.pI hc pI_X10_15 rfl dX10_putSign_26 (fun h5 e => ?_)
    replace hw := hw h5 e
    clear e
    exact V.vret hc hr dX10_putSign_29 hw
theorem tX10_putText_2 {G : GG} {p : Program} {l : Launch} {e : Jvm.Env} {s : State} {m : MethodId} {args : Array Value} {below : List Frame} {meth : Method} {c : Code} {P : HP → Prop} (hc : VC G p (rmD 9 0) s m args meth c RX10 cX10_putText 3 9) (hr : meth.sig.returnType = none) {o : Int} {s1 : Int} {K25 : HP → Prop} (hK25 : ∀  (h : HP), K25  h → V G p l e (rmD 9 0) s m args below meth c (MQ below (QV G P) args s 0 0 (va_Aof G)) 3 25 [(1, 0), (1, 0), (1, 0)] [] h 0) : ∀ (f : Nat) (l2 : Int) (h : HP), wX10_putText_2 o s1 K25 f l2 h → V G p l e (rmD 9 0) s m args below meth c (MQ below (QV G P) args s 0 0 (va_Aof G)) 3 2 [(20, o), (6, s1), (0, l2)] [] h 0 := by
  intro f
  induction f with
  | zero =>
    intro l2 h hw
    exact hw.elim
  | succ f ih =>
    intro l2 h hw
    refine V.iload_n hc dX10_putText_2 rfl rfl ?_
    refine V.aloadS_n hc dX10_putText_3 rfl rfl ?_
    refine V.sLen hc ml_X10_59 rfl rfl dX10_putText_4 ?_
    obtain ⟨g1, hw⟩ := hw
    obtain ⟨g2, hw⟩ := hw
    refine V.icmp_ge hc (tgt := 25) dX10_putText_7 (by decide) g1 g2 (fun c3 => ?_) (fun c3 => ?_)
    · replace hw := hw.1 c3
      refine V.drop (lo' := [(1, 0), (1, 0), (1, 0)]) ⟨Or.inl rfl, Or.inl rfl, Or.inl rfl, trivial⟩ ?_
      exact hK25 _ hw
    · replace hw := hw.2 c3
      refine V.aload_n (t := 10) hc dX10_putText_10 rfl rfl ?_
      refine V.aloadS_n hc dX10_putText_11 rfl rfl ?_
      refine V.iload_n hc dX10_putText_12 rfl rfl ?_
      obtain ⟨g4, hw⟩ := hw
      refine V.sChar hc ml_X10_64 rfl rfl g4 dX10_putText_13 ?_
      refine V.callVV hc (qX10_putSign G l _ _ _ _ hw) mo_X10_putSign ml_X10_68 (by rfl) rfl rfl (as := [(0, strC s1 l2)]) rfl rfl rfl rfl rfl ⟨Nat.zero_le _, Nat.zero_le _⟩ dX10_putText_16 (fun h5 hw => ?_)
      refine V.iinc hc dX10_putText_19 rfl rfl (lo' := [(20, o), (6, s1), (0, l2 + 1)]) rfl ?_
      refine V.goto hc (tgt := 2) dX10_putText_22 (by decide) ?_
      exact ih _ _ hw
theorem qX10_putText (G : GG) (l : Launch) (o : Int) (s1 : Int) (h : HP) (P : HP → Prop) (hw : wX10_putText o s1 h P) : CnV l G yX10_putText cX10_putText 3 9 [(20, o), (6, s1)] h P := by
  refine CnV.of (lo := [(20, o), (6, s1), (1, 0)]) (by decide) rfl rfl rfl ?_
  intro p e s m args below meth c hc hr
  have hc : VC G p (rmD 9 0) s m args meth c RX10 cX10_putText 3 9 := hc
  refine V.iconst hc dX10_putText_0 ?_
  refine V.istore_n hc dX10_putText_1 rfl rfl (lo' := [(20, o), (6, s1), (0, 0)]) rfl ?_
  obtain ⟨f6, hw⟩ := hw
  refine tX10_putText_2 hc hr ?_ f6 _ _ hw
  · intro h7 hw
    exact V.vret hc hr dX10_putText_25 hw
theorem tX10_putNumber_26 {G : GG} {p : Program} {l : Launch} {e : Jvm.Env} {s : State} {m : MethodId} {args : Array Value} {below : List Frame} {meth : Method} {c : Code} {P : HP → Prop} (hc : VC G p (rmD 9 0) s m args meth c RX10 cX10_putNumber 2 9) (hr : meth.sig.returnType = none) {o : Int} {a1 : Int} {h : HP} (hw : wX10_putNumber_26 o a1 P h) : V G p l e (rmD 9 0) s m args below meth c (MQ below (QV G P) args s 0 0 (va_Aof G)) 2 26 [(20, o), (0, a1)] [] h 0 := by
  refine V.iload_n hc dX10_putNumber_26 rfl rfl ?_
  refine V.bipush hc dX10_putNumber_27 (by decide) ?_
  obtain ⟨g4, hw⟩ := hw
  refine V.icmp_lt hc (tgt := 46) dX10_putNumber_29 (by decide) g4 (by omega) (fun c5 => ?_) (fun c5 => ?_)
  · replace hw := hw.1 c5
    refine V.aload_n (t := 10) hc dX10_putNumber_46 rfl rfl ?_
    refine V.bipush hc dX10_putNumber_47 (by decide) ?_
    refine V.iload_n hc dX10_putNumber_49 rfl rfl ?_
    refine V.bipush hc dX10_putNumber_50 (by decide) ?_
    obtain ⟨g6, hw⟩ := hw
    refine V.irem hc g6 (by omega) dX10_putNumber_52 ?_
    refine V.iadd hc dX10_putNumber_53 ?_
    refine V.callVV hc (qX10_putSign G l _ _ _ _ hw) mo_X10_putSign ml_X10_68 (by rfl) rfl rfl (as := [(0, 48 + (a1 % 10))]) rfl rfl rfl rfl rfl ⟨Nat.zero_le _, Nat.zero_le _⟩ dX10_putNumber_54 (fun h7 hw => ?_)
    exact V.vret hc hr dX10_putNumber_57 hw
  · replace hw := hw.2 c5
    refine V.aload_n (t := 10) hc dX10_putNumber_32 rfl rfl ?_
    refine V.bipush hc dX10_putNumber_33 (by decide) ?_
    refine V.iload_n hc dX10_putNumber_35 rfl rfl ?_
    refine V.bipush hc dX10_putNumber_36 (by decide) ?_
    obtain ⟨g8, hw⟩ := hw
    refine V.idiv hc g8 (by omega) dX10_putNumber_38 ?_
    refine V.bipush hc dX10_putNumber_39 (by decide) ?_
    obtain ⟨g9, hw⟩ := hw
    refine V.irem hc g9 (by omega) dX10_putNumber_41 ?_
    refine V.iadd hc dX10_putNumber_42 ?_
    refine V.callVV hc (qX10_putSign G l _ _ _ _ hw) mo_X10_putSign ml_X10_68 (by rfl) rfl rfl (as := [(0, 48 + ((a1 / 10) % 10))]) rfl rfl rfl rfl rfl ⟨Nat.zero_le _, Nat.zero_le _⟩ dX10_putNumber_43 (fun h10 hw => ?_)
    refine V.aload_n (t := 10) hc dX10_putNumber_46 rfl rfl ?_
    refine V.bipush hc dX10_putNumber_47 (by decide) ?_
    refine V.iload_n hc dX10_putNumber_49 rfl rfl ?_
    refine V.bipush hc dX10_putNumber_50 (by decide) ?_
    obtain ⟨g11, hw⟩ := hw
    refine V.irem hc g11 (by omega) dX10_putNumber_52 ?_
    refine V.iadd hc dX10_putNumber_53 ?_
    refine V.callVV hc (qX10_putSign G l _ _ _ _ hw) mo_X10_putSign ml_X10_68 (by rfl) rfl rfl (as := [(0, 48 + (a1 % 10))]) rfl rfl rfl rfl rfl ⟨Nat.zero_le _, Nat.zero_le _⟩ dX10_putNumber_54 (fun h12 hw => ?_)
    exact V.vret hc hr dX10_putNumber_57 hw
theorem qX10_putNumber (G : GG) (l : Launch) (o : Int) (a1 : Int) (h : HP) (P : HP → Prop) (hw : wX10_putNumber o a1 h P) : CnV l G yX10_putNumber cX10_putNumber 2 9 [(20, o), (0, a1)] h P := by
  refine CnV.of (lo := [(20, o), (0, a1)]) (by decide) rfl rfl rfl ?_
  intro p e s m args below meth c hc hr
  have hc : VC G p (rmD 9 0) s m args meth c RX10 cX10_putNumber 2 9 := hc
  refine V.aload_n (t := 10) hc dX10_putNumber_0 rfl rfl ?_
  refine V.bipush hc dX10_putNumber_1 (by decide) ?_
  refine V.callVV hc (qX10_putSign G l _ _ _ _ hw) mo_X10_putSign ml_X10_68 (by rfl) rfl rfl (as := [(0, 32)]) rfl rfl rfl rfl rfl ⟨Nat.zero_le _, Nat.zero_le _⟩ dX10_putNumber_3 (fun h1 hw => ?_)
  refine V.iload_n hc dX10_putNumber_6 rfl rfl ?_
  refine V.bipush hc dX10_putNumber_7 (by decide) ?_
  obtain ⟨g2, hw⟩ := hw
  refine V.icmp_lt hc (tgt := 26) dX10_putNumber_9 (by decide) g2 (by omega) (fun c3 => ?_) (fun c3 => ?_)
  · replace hw := hw.1 c3
    exact tX10_putNumber_26 hc hr  hw
  · replace hw := hw.2 c3
    refine V.aload_n (t := 10) hc dX10_putNumber_12 rfl rfl ?_
    refine V.bipush hc dX10_putNumber_13 (by decide) ?_
    refine V.iload_n hc dX10_putNumber_15 rfl rfl ?_
    refine V.bipush hc dX10_putNumber_16 (by decide) ?_
    obtain ⟨g13, hw⟩ := hw
    refine V.idiv hc g13 (by omega) dX10_putNumber_18 ?_
    refine V.bipush hc dX10_putNumber_19 (by decide) ?_
    obtain ⟨g14, hw⟩ := hw
    refine V.irem hc g14 (by omega) dX10_putNumber_21 ?_
    refine V.iadd hc dX10_putNumber_22 ?_
    refine V.callVV hc (qX10_putSign G l _ _ _ _ hw) mo_X10_putSign ml_X10_68 (by rfl) rfl rfl (as := [(0, 48 + ((a1 / 100) % 10))]) rfl rfl rfl rfl rfl ⟨Nat.zero_le _, Nat.zero_le _⟩ dX10_putNumber_23 (fun h15 hw => ?_)
    exact tX10_putNumber_26 hc hr  hw
theorem tX10_tell_124 {G : GG} {p : Program} {l : Launch} {e : Jvm.Env} {s : State} {m : MethodId} {args : Array Value} {below : List Frame} {meth : Method} {c : Code} {P : HP → Prop} (hc : VC G p (rmD 10 0) s m args meth c RX10 cX10_tell 6 10) (hr : meth.sig.returnType = none) {o : Int} {a1 : Int} {o2 : Int} {o3 : Int} {l4 : Int} {h : HP} {K41 : Int → HP → Prop} (hK41 : ∀ (x4 : Int) (h : HP), K41 x4 h → V G p l e (rmD 10 0) s m args below meth c (MQ below (QV G P) args s 0 0 (va_Aof G)) 6 41 [(20, o), (0, a1), (1, 0), (11, o3), (0, x4), (1, 0)] [] h 0) (hw : wX10_tell_124 o a1 o2 o3 l4 K41 h) : V G p l e (rmD 10 0) s m args below meth c (MQ below (QV G P) args s 0 0 (va_Aof G)) 6 124 [(20, o), (0, a1), (1, 0), (11, o3), (0, l4), (1, 0)] [] h 0 := by
  refine V.iinc hc dX10_tell_124 rfl rfl (lo' := [(20, o), (0, a1), (1, 0), (11, o3), (0, l4 + 1), (1, 0)]) rfl ?_
  refine V.goto hc (tgt := 41) dX10_tell_127 (by decide) ?_
  exact hK41 _ _ hw
theorem tX10_tell_41 {G : GG} {p : Program} {l : Launch} {e : Jvm.Env} {s : State} {m : MethodId} {args : Array Value} {below : List Frame} {meth : Method} {c : Code} {P : HP → Prop} (hc : VC G p (rmD 10 0) s m args meth c RX10 cX10_tell 6 10) (hr : meth.sig.returnType = none) {o : Int} {a1 : Int} {o2 : Int} {o3 : Int} {K130 : HP → Prop} (hK130 : ∀  (h : HP), K130  h → V G p l e (rmD 10 0) s m args below meth c (MQ below (QV G P) args s 0 0 (va_Aof G)) 6 130 [(20, o), (1, 0), (1, 0), (1, 0), (1, 0), (1, 0)] [] h 0) : ∀ (f : Nat) (l4 : Int) (h : HP), wX10_tell_41 o a1 o2 o3 K130 f l4 h → V G p l e (rmD 10 0) s m args below meth c (MQ below (QV G P) args s 0 0 (va_Aof G)) 6 41 [(20, o), (0, a1), (1, 0), (11, o3), (0, l4), (1, 0)] [] h 0 := by
  intro f
  induction f with
  | zero =>
    intro l4 h hw
    exact hw.elim
  | succ f ih =>
    intro l4 h hw
    refine V.iload hc dX10_tell_41 rfl ?_
    refine V.iconst hc dX10_tell_43 ?_
    obtain ⟨g6, hw⟩ := hw
    refine V.icmp_ge hc (tgt := 130) dX10_tell_44 (by decide) g6 (by omega) (fun c7 => ?_) (fun c7 => ?_)
    · replace hw := hw.1 c7
      refine V.drop (lo' := [(20, o), (1, 0), (1, 0), (1, 0), (1, 0), (1, 0)]) ⟨Or.inr rfl, Or.inl rfl, Or.inr rfl, Or.inl rfl, Or.inl rfl, Or.inr rfl, trivial⟩ ?_
      exact hK130 _ hw
    · replace hw := hw.2 c7
      refine V.iload_n hc dX10_tell_47 rfl rfl ?_
      refine V.iconst hc dX10_tell_48 ?_
      refine V.imul hc dX10_tell_49 ?_
      refine V.iload hc dX10_tell_50 rfl ?_
      refine V.iadd hc dX10_tell_52 ?_
      refine V.istore hc dX10_tell_53 rfl (lo' := [(20, o), (0, a1), (1, 0), (11, o3), (0, l4), (0, (a1 * 3) + l4)]) rfl ?_
      refine V.aload_n (t := 1) hc dX10_tell_55 rfl rfl ?_
      refine V.iload hc dX10_tell_56 rfl ?_
      refine V.callVI hc (qX1_has G l _ _ _ _ hw) mo_X1_has ml_X10_36 (by rfl) rfl rfl (as := [(0, (a1 * 3) + l4)]) rfl rfl rfl rfl rfl ⟨Nat.zero_le _, Nat.zero_le _⟩ dX10_tell_58 (fun x9 h8 hw => ?_)
      obtain ⟨g10, hw⟩ := hw
      refine V.if_eq hc (tgt := 124) dX10_tell_61 (by decide) g10 (fun c11 => ?_) (fun c11 => ?_)
      · replace hw := hw.1 c11
        refine V.drop (lo' := [(20, o), (0, a1), (1, 0), (11, o3), (0, l4), (1, 0)]) ⟨Or.inr rfl, Or.inr rfl, Or.inr rfl, Or.inr rfl, Or.inr rfl, Or.inl rfl, trivial⟩ ?_
        exact tX10_tell_124 hc hr (fun y4 hy hw => by exact ih _ _ hw) hw
      · replace hw := hw.2 c11
        refine V.aload_n (t := 10) hc dX10_tell_64 rfl rfl ?_
        refine V.iload hc dX10_tell_65 rfl ?_
        obtain ⟨q15, hw⟩ := hw
        have kJ23 : ∀ t14 : Int, ((¬ l4 = 0 → ((¬ l4 = 1 → t14 = 11) ∧ (l4 = 1 → t14 = 10))) ∧ (l4 = 0 → t14 = 9)) → V G p l e (rmD 10 0) s m args below meth c (MQ below (QV G P) args s 0 0 (va_Aof G)) 6 88 [(20, o), (0, a1), (1, 0), (11, o3), (0, l4), (0, (a1 * 3) + l4)] [(6, t14), (20, o)] h8 0 := by
          intro t14 he
          replace hw := hw t14 he
          clear he
          refine V.callVV hc (qX10_putText G l _ _ _ _ hw) mo_X10_putText ml_X10_21 (by rfl) rfl rfl (as := [(6, t14)]) rfl rfl rfl rfl rfl ⟨Nat.zero_le _, Nat.zero_le _⟩ dX10_tell_88 (fun h16 hw => ?_)
          refine V.aload_n (t := 10) hc dX10_tell_91 rfl rfl ?_
          refine V.aload_n (t := 1) hc dX10_tell_92 rfl rfl ?_
          refine V.gR hc gR_X10_48 (i' := o3) rfl dX10_tell_93 ?_
          refine V.iload hc dX10_tell_96 rfl ?_
          obtain ⟨g17, hw⟩ := hw
          refine V.ald hc ak_13 g17 dX10_tell_98 ?_
          refine V.callVV hc (qX10_putNumber G l _ _ _ _ hw) mo_X10_putNumber ml_X10_32 (by rfl) rfl rfl (as := [(0, h16 13 o3 ((a1 * 3) + l4))]) rfl rfl rfl rfl rfl ⟨Nat.zero_le _, Nat.zero_le _⟩ dX10_tell_99 (fun h18 hw => ?_)
          refine V.aload_n (t := 10) hc dX10_tell_102 rfl rfl ?_
          refine V.aload_n (t := 1) hc dX10_tell_103 rfl rfl ?_
          refine V.gR hc gR_X10_51 (i' := o3) rfl dX10_tell_104 ?_
          refine V.iload hc dX10_tell_107 rfl ?_
          obtain ⟨g19, hw⟩ := hw
          refine V.ald hc ak_14 g19 dX10_tell_109 ?_
          refine V.callVV hc (qX10_putNumber G l _ _ _ _ hw) mo_X10_putNumber ml_X10_32 (by rfl) rfl rfl (as := [(0, h18 14 o3 ((a1 * 3) + l4))]) rfl rfl rfl rfl rfl ⟨Nat.zero_le _, Nat.zero_le _⟩ dX10_tell_110 (fun h20 hw => ?_)
          refine V.aload_n (t := 10) hc dX10_tell_113 rfl rfl ?_
          refine V.aload_n (t := 1) hc dX10_tell_114 rfl rfl ?_
          refine V.gR hc gR_X10_54 (i' := o3) rfl dX10_tell_115 ?_
          refine V.iload hc dX10_tell_118 rfl ?_
          obtain ⟨g21, hw⟩ := hw
          refine V.ald hc ak_15 g21 dX10_tell_120 ?_
          refine V.callVV hc (qX10_putNumber G l _ _ _ _ hw) mo_X10_putNumber ml_X10_32 (by rfl) rfl rfl (as := [(0, h20 15 o3 ((a1 * 3) + l4))]) rfl rfl rfl rfl rfl ⟨Nat.zero_le _, Nat.zero_le _⟩ dX10_tell_121 (fun h22 hw => ?_)
          refine V.drop (lo' := [(20, o), (0, a1), (1, 0), (11, o3), (0, l4), (1, 0)]) ⟨Or.inr rfl, Or.inr rfl, Or.inr rfl, Or.inr rfl, Or.inr rfl, Or.inl rfl, trivial⟩ ?_
          exact tX10_tell_124 hc hr (fun y4 hy hw => by exact ih _ _ hw) hw
        obtain ⟨g12, q24⟩ := q15
        refine V.if_ne hc (tgt := 75) dX10_tell_67 (by decide) g12 (fun c25 => ?_) (fun c25 => ?_)
        · have q26 := q24 c25
          have g13 := q26
          refine V.iload hc dX10_tell_75 rfl ?_
          refine V.iconst hc dX10_tell_77 ?_
          refine V.icmp_ne hc (tgt := 86) dX10_tell_78 (by decide) g13 (by omega) (fun c27 => ?_) (fun c27 => ?_)
          · refine V.ldcS hc sl_X10_46 rfl rfl dX10_tell_86 ?_
            exact kJ23 _ ⟨fun _ => ⟨fun _ => rfl, (fun q => absurd q c27)⟩, (fun q => absurd q c25)⟩
          · refine V.ldcS hc sl_X10_44 rfl rfl dX10_tell_81 ?_
            refine V.goto hc (tgt := 88) dX10_tell_83 (by decide) ?_
            exact kJ23 _ ⟨fun _ => ⟨(fun q => absurd c27 q), fun _ => rfl⟩, (fun q => absurd q c25)⟩
        · refine V.ldcS hc sl_X10_42 rfl rfl dX10_tell_70 ?_
          refine V.goto hc (tgt := 88) dX10_tell_72 (by decide) ?_
          exact kJ23 _ ⟨(fun q => absurd c25 q), fun _ => rfl⟩
theorem tX10_tell_38 {G : GG} {p : Program} {l : Launch} {e : Jvm.Env} {s : State} {m : MethodId} {args : Array Value} {below : List Frame} {meth : Method} {c : Code} {P : HP → Prop} (hc : VC G p (rmD 10 0) s m args meth c RX10 cX10_tell 6 10) (hr : meth.sig.returnType = none) {o : Int} {a1 : Int} {o2 : Int} {o3 : Int} {h : HP} (hw : wX10_tell_38 o a1 o2 o3 P h) : V G p l e (rmD 10 0) s m args below meth c (MQ below (QV G P) args s 0 0 (va_Aof G)) 6 38 [(20, o), (0, a1), (1, 0), (11, o3), (1, 0), (1, 0)] [] h 0 := by
  refine V.iconst hc dX10_tell_38 ?_
  refine V.istore hc dX10_tell_39 rfl (lo' := [(20, o), (0, a1), (1, 0), (11, o3), (0, 0), (1, 0)]) rfl ?_
  obtain ⟨f28, hw⟩ := hw
  refine tX10_tell_41 hc hr ?_ f28 _ _ hw
  · intro h29 hw
    refine V.aload_n (t := 10) hc dX10_tell_130 rfl rfl ?_
    refine V.ldcS hc sl_X10_57 rfl rfl dX10_tell_131 ?_
    refine V.callVV hc (qX10_putText G l _ _ _ _ hw) mo_X10_putText ml_X10_21 (by rfl) rfl rfl (as := [(6, 7)]) rfl rfl rfl rfl rfl ⟨Nat.zero_le _, Nat.zero_le _⟩ dX10_tell_133 (fun h30 hw => ?_)
    exact V.vret hc hr dX10_tell_136 hw
theorem qX10_tell (G : GG) (l : Launch) (o : Int) (a1 : Int) (o2 : Int) (o3 : Int) (h : HP) (P : HP → Prop) (hw : wX10_tell o a1 o2 o3 h P) : CnV l G yX10_tell cX10_tell 6 10 [(20, o), (0, a1), (18, o2), (11, o3)] h P := by
  refine CnV.of (lo := [(20, o), (0, a1), (18, o2), (11, o3), (1, 0), (1, 0)]) (by decide) rfl rfl rfl ?_
  intro p e s m args below meth c hc hr
  have hc : VC G p (rmD 10 0) s m args meth c RX10 cX10_tell 6 10 := hc
  refine V.aload_n (t := 10) hc dX10_tell_0 rfl rfl ?_
  refine V.iconst hc dX10_tell_1 ?_
  refine V.pI hc pI_X10_15 rfl dX10_tell_2 (fun h1 e => ?_)
  replace hw := hw h1 e
  clear e
  refine V.aload_n (t := 10) hc dX10_tell_5 rfl rfl ?_
  refine V.ldcS hc sl_X10_19 rfl rfl dX10_tell_6 ?_
  refine V.callVV hc (qX10_putText G l _ _ _ _ hw) mo_X10_putText ml_X10_21 (by rfl) rfl rfl (as := [(6, 3)]) rfl rfl rfl rfl rfl ⟨Nat.zero_le _, Nat.zero_le _⟩ dX10_tell_8 (fun h2 hw => ?_)
  refine V.aload_n (t := 8) hc dX10_tell_11 rfl rfl ?_
  refine V.gR hc gR_X10_25 (i' := o2) rfl dX10_tell_12 ?_
  refine V.iload_n hc dX10_tell_15 rfl rfl ?_
  obtain ⟨g3, hw⟩ := hw
  refine V.ald hc ak_37 g3 dX10_tell_16 ?_
  refine V.bipush hc dX10_tell_17 (by decide) ?_
  obtain ⟨g4, hw⟩ := hw
  refine V.icmp_eq hc (tgt := 38) dX10_tell_19 (by decide) g4 (by omega) (fun c5 => ?_) (fun c5 => ?_)
  · replace hw := hw.1 c5
    refine V.drop (lo' := [(20, o), (0, a1), (1, 0), (11, o3), (1, 0), (1, 0)]) ⟨Or.inr rfl, Or.inr rfl, Or.inl rfl, Or.inr rfl, Or.inr rfl, Or.inr rfl, trivial⟩ ?_
    exact tX10_tell_38 hc hr  hw
  · replace hw := hw.2 c5
    refine V.aload_n (t := 10) hc dX10_tell_22 rfl rfl ?_
    refine V.ldcS hc sl_X10_30 rfl rfl dX10_tell_23 ?_
    refine V.callVV hc (qX10_putText G l _ _ _ _ hw) mo_X10_putText ml_X10_21 (by rfl) rfl rfl (as := [(6, 6)]) rfl rfl rfl rfl rfl ⟨Nat.zero_le _, Nat.zero_le _⟩ dX10_tell_25 (fun h31 hw => ?_)
    refine V.aload_n (t := 10) hc dX10_tell_28 rfl rfl ?_
    refine V.aload_n (t := 8) hc dX10_tell_29 rfl rfl ?_
    refine V.gR hc gR_X10_25 (i' := o2) rfl dX10_tell_30 ?_
    refine V.iload_n hc dX10_tell_33 rfl rfl ?_
    obtain ⟨g32, hw⟩ := hw
    refine V.ald hc ak_37 g32 dX10_tell_34 ?_
    refine V.callVV hc (qX10_putNumber G l _ _ _ _ hw) mo_X10_putNumber ml_X10_32 (by rfl) rfl rfl (as := [(0, h31 37 o2 a1)]) rfl rfl rfl rfl rfl ⟨Nat.zero_le _, Nat.zero_le _⟩ dX10_tell_35 (fun h33 hw => ?_)
    refine V.drop (lo' := [(20, o), (0, a1), (1, 0), (11, o3), (1, 0), (1, 0)]) ⟨Or.inr rfl, Or.inr rfl, Or.inl rfl, Or.inr rfl, Or.inr rfl, Or.inr rfl, trivial⟩ ?_
    exact tX10_tell_38 hc hr  hw
theorem tX11_putNumber_43 {G : GG} {p : Program} {l : Launch} {e : Jvm.Env} {s : State} {m : MethodId} {args : Array Value} {below : List Frame} {meth : Method} {c : Code} {P : HP → Prop} (hc : VC G p (rmD 8 0) s m args meth c RX11 cX11_putNumber 3 8) (hr : meth.sig.returnType = none) {o : Int} {a1 : Int} {l2 : Int} {h : HP} {K3 : Int → HP → Prop} (hK3 : ∀ (x2 : Int) (h : HP), K3 x2 h → V G p l e (rmD 8 0) s m args below meth c (MQ below (QV G P) args s 0 0 (va_Aof G)) 3 3 [(21, o), (0, a1), (0, x2)] [] h 0) (hw : wX11_putNumber_43 o a1 l2 K3 h) : V G p l e (rmD 8 0) s m args below meth c (MQ below (QV G P) args s 0 0 (va_Aof G)) 3 43 [(21, o), (0, a1), (0, l2)] [] h 0 := by
  refine V.iinc hc dX11_putNumber_43 rfl rfl (lo' := [(21, o), (0, a1), (0, l2 + (-8))]) rfl ?_
  refine V.goto hc (tgt := 3) dX11_putNumber_46 (by decide) ?_
  exact hK3 _ _ hw
theorem tX11_putNumber_3 {G : GG} {p : Program} {l : Launch} {e : Jvm.Env} {s : State} {m : MethodId} {args : Array Value} {below : List Frame} {meth : Method} {c : Code} {P : HP → Prop} (hc : VC G p (rmD 8 0) s m args meth c RX11 cX11_putNumber 3 8) (hr : meth.sig.returnType = none) {o : Int} {a1 : Int} {K49 : HP → Prop} (hK49 : ∀  (h : HP), K49  h → V G p l e (rmD 8 0) s m args below meth c (MQ below (QV G P) args s 0 0 (va_Aof G)) 3 49 [(1, 0), (1, 0), (1, 0)] [] h 0) : ∀ (f : Nat) (l2 : Int) (h : HP), wX11_putNumber_3 o a1 K49 f l2 h → V G p l e (rmD 8 0) s m args below meth c (MQ below (QV G P) args s 0 0 (va_Aof G)) 3 3 [(21, o), (0, a1), (0, l2)] [] h 0 := by
  intro f
  induction f with
  | zero =>
    intro l2 h hw
    exact hw.elim
  | succ f ih =>
    intro l2 h hw
    refine V.iload_n hc dX11_putNumber_3 rfl rfl ?_
    obtain ⟨g1, hw⟩ := hw
    refine V.if_lt hc (tgt := 49) dX11_putNumber_4 (by decide) g1 (fun c2 => ?_) (fun c2 => ?_)
    · replace hw := hw.1 c2
      refine V.drop (lo' := [(1, 0), (1, 0), (1, 0)]) ⟨Or.inl rfl, Or.inl rfl, Or.inl rfl, trivial⟩ ?_
      exact hK49 _ hw
    · replace hw := hw.2 c2
      refine V.aload_n (t := 11) hc dX11_putNumber_7 rfl rfl ?_
      refine V.gI hc gI_X11_13 rfl dX11_putNumber_8 ?_
      refine V.sipush hc dX11_putNumber_11 (by decide) ?_
      obtain ⟨g3, hw⟩ := hw
      refine V.icmp_ge hc (tgt := 43) dX11_putNumber_14 (by decide) g3 (by omega) (fun c4 => ?_) (fun c4 => ?_)
      · replace hw := hw.1 c4
        exact tX11_putNumber_43 hc hr (fun y2 hy hw => by exact ih _ _ hw) hw
      · replace hw := hw.2 c4
        refine V.aload_n (t := 11) hc dX11_putNumber_17 rfl rfl ?_
        refine V.gR hc gR_X11_9 (i' := o) rfl dX11_putNumber_18 ?_
        refine V.aload_n (t := 11) hc dX11_putNumber_21 rfl rfl ?_
        refine V.gI hc gI_X11_13 rfl dX11_putNumber_22 ?_
        refine V.iload_n hc dX11_putNumber_25 rfl rfl ?_
        refine V.iload_n hc dX11_putNumber_26 rfl rfl ?_
        refine V.iushr hc dX11_putNumber_27 ?_
        refine V.sipush hc dX11_putNumber_28 (by decide) ?_
        refine V.iand hc dX11_putNumber_31 ?_
        obtain ⟨g6, hw⟩ := hw
        refine V.ast hc ak_45 g6 dX11_putNumber_32 (fun h5 e => ?_)
        replace hw := hw h5 e
        clear e
        refine V.aload_n (t := 11) hc dX11_putNumber_33 rfl rfl ?_
        refine V.dup hc dX11_putNumber_34 (by simp) ?_
        refine V.gI hc gI_X11_13 rfl dX11_putNumber_35 ?_
        refine V.iconst hc dX11_putNumber_38 ?_
        refine V.iadd hc dX11_putNumber_39 ?_
        refine V.pI hc pI_X11_13 rfl dX11_putNumber_40 (fun h7 e => ?_)
        replace hw := hw h7 e
        clear e
        exact tX11_putNumber_43 hc hr (fun y2 hy hw => by exact ih _ _ hw) hw
theorem qX11_putNumber (G : GG) (l : Launch) (o : Int) (a1 : Int) (h : HP) (P : HP → Prop) (hw : wX11_putNumber o a1 h P) : CnV l G yX11_putNumber cX11_putNumber 3 8 [(21, o), (0, a1)] h P := by
  refine CnV.of (lo := [(21, o), (0, a1), (1, 0)]) (by decide) rfl rfl rfl ?_
  intro p e s m args below meth c hc hr
  have hc : VC G p (rmD 8 0) s m args meth c RX11 cX11_putNumber 3 8 := hc
  refine V.bipush hc dX11_putNumber_0 (by decide) ?_
  refine V.istore_n hc dX11_putNumber_2 rfl rfl (lo' := [(21, o), (0, a1), (0, 24)]) rfl ?_
  obtain ⟨f8, hw⟩ := hw
  refine tX11_putNumber_3 hc hr ?_ f8 _ _ hw
  · intro h9 hw
    exact V.vret hc hr dX11_putNumber_49 hw
theorem qX11_feed (G : GG) (l : Launch) (o : Int) (a1 : Int) (a2 : Int) (a3 : Int) (a4 : Int) (a5 : Int) (h : HP) (P : Int → HP → Prop) (hw : wX11_feed o a1 a2 a3 a4 a5 h P) : CnI l G yX11_feed cX11_feed 6 (some .int) 9 [(21, o), (0, a1), (0, a2), (0, a3), (0, a4), (0, a5)] h P := by
  refine CnI.of (lo := [(21, o), (0, a1), (0, a2), (0, a3), (0, a4), (0, a5)]) (by decide) rfl rfl rfl ?_
  intro p e s m args below meth c hc hr
  have hc : VC G p (rmD 9 0) s m args meth c RX11 cX11_feed 6 9 := hc
  refine V.aload_n (t := 11) hc dX11_feed_0 rfl rfl ?_
  refine V.gI hc gI_X11_13 rfl dX11_feed_1 ?_
  refine V.bipush hc dX11_feed_4 (by decide) ?_
  refine V.iadd hc dX11_feed_6 ?_
  refine V.sipush hc dX11_feed_7 (by decide) ?_
  obtain ⟨g1, hw⟩ := hw
  refine V.icmp_le hc (tgt := 15) dX11_feed_10 (by decide) g1 (by omega) (fun c2 => ?_) (fun c2 => ?_)
  · replace hw := hw.1 c2
    refine V.aload_n (t := 11) hc dX11_feed_15 rfl rfl ?_
    refine V.iload_n hc dX11_feed_16 rfl rfl ?_
    refine V.callVV hc (qX11_putNumber G l _ _ _ _ hw) mo_X11_putNumber ml_X11_125 (by rfl) rfl rfl (as := [(0, a1)]) rfl rfl rfl rfl rfl ⟨Nat.zero_le _, Nat.zero_le _⟩ dX11_feed_17 (fun h3 hw => ?_)
    refine V.aload_n (t := 11) hc dX11_feed_20 rfl rfl ?_
    refine V.iload_n hc dX11_feed_21 rfl rfl ?_
    refine V.callVV hc (qX11_putNumber G l _ _ _ _ hw) mo_X11_putNumber ml_X11_125 (by rfl) rfl rfl (as := [(0, a2)]) rfl rfl rfl rfl rfl ⟨Nat.zero_le _, Nat.zero_le _⟩ dX11_feed_22 (fun h4 hw => ?_)
    refine V.aload_n (t := 11) hc dX11_feed_25 rfl rfl ?_
    refine V.iload_n hc dX11_feed_26 rfl rfl ?_
    refine V.callVV hc (qX11_putNumber G l _ _ _ _ hw) mo_X11_putNumber ml_X11_125 (by rfl) rfl rfl (as := [(0, a3)]) rfl rfl rfl rfl rfl ⟨Nat.zero_le _, Nat.zero_le _⟩ dX11_feed_27 (fun h5 hw => ?_)
    refine V.aload_n (t := 11) hc dX11_feed_30 rfl rfl ?_
    refine V.iload hc dX11_feed_31 rfl ?_
    refine V.callVV hc (qX11_putNumber G l _ _ _ _ hw) mo_X11_putNumber ml_X11_125 (by rfl) rfl rfl (as := [(0, a4)]) rfl rfl rfl rfl rfl ⟨Nat.zero_le _, Nat.zero_le _⟩ dX11_feed_33 (fun h6 hw => ?_)
    refine V.aload_n (t := 11) hc dX11_feed_36 rfl rfl ?_
    refine V.iload hc dX11_feed_37 rfl ?_
    refine V.callVV hc (qX11_putNumber G l _ _ _ _ hw) mo_X11_putNumber ml_X11_125 (by rfl) rfl rfl (as := [(0, a5)]) rfl rfl rfl rfl rfl ⟨Nat.zero_le _, Nat.zero_le _⟩ dX11_feed_39 (fun h7 hw => ?_)
    refine V.aload_n (t := 11) hc dX11_feed_42 rfl rfl ?_
    refine V.gI hc gI_X11_13 rfl dX11_feed_43 ?_
    exact V.iret hc hr dX11_feed_46 hw
  · replace hw := hw.2 c2
    refine V.iconst hc dX11_feed_13 ?_
    exact V.iret hc hr dX11_feed_14 hw
theorem qX11_link (G : GG) (l : Launch) (hlf : l.stackTraces = false) (o : Int) (a1 : Int) (h : HP) (P : Int → HP → Prop) (X : Nat → HP → Prop) (hw : wX11_link o a1 h P X) : CxI l G yX11_link cX11_link 3 (some .int) 15 1 [(21, o), (0, a1)] h P X := by
  refine CxI.of (lo := [(21, o), (0, a1), (1, 0)]) (by decide) rfl rfl rfl ?_
  intro p e s m args below meth c hc hr hxt
  have hc : VC G p (rmD 15 1) s m args meth c RX11 cX11_link 3 15 := hc
  refine V.iload_n hc dX11_link_0 rfl rfl ?_
  obtain ⟨g1, hw⟩ := hw
  refine V.if_lt hc (tgt := 12) dX11_link_1 (by decide) g1 (fun c2 => ?_) (fun c2 => ?_)
  · replace hw := hw.1 c2
    exact V.throwI hc hlf hxt rfl rfl rfl dX11_link_12 dX11_link_15 dX11_link_16 dX11_link_19 hw
  · replace hw := hw.2 c2
    refine V.iload_n hc dX11_link_4 rfl rfl ?_
    refine V.aload_n (t := 11) hc dX11_link_5 rfl rfl ?_
    refine V.gI hc gI_X11_13 rfl dX11_link_6 ?_
    obtain ⟨g3, hw⟩ := hw
    obtain ⟨g4, hw⟩ := hw
    refine V.icmp_le hc (tgt := 20) dX11_link_9 (by decide) g3 g4 (fun c5 => ?_) (fun c5 => ?_)
    · replace hw := hw.1 c5
      refine V.aload_n (t := 11) hc dX11_link_20 rfl rfl ?_
      refine V.gR hc gR_X11_38 (i' := 0) rfl dX11_link_21 ?_
      refine V.iload_n hc dX11_link_24 rfl rfl ?_
      refine V.callVI hc (qX9_read G l _ _ _ _ hw) mo_X9_read ml_X11_132 (by rfl) rfl rfl (as := [(0, a1)]) rfl rfl rfl rfl rfl ⟨by show _ ≤ 1; omega, by show _ ≤ 6 * 1; omega⟩ dX11_link_25 (fun x7 h6 hw => ?_)
      refine V.istore_n hc dX11_link_28 rfl rfl (lo' := [(21, o), (0, a1), (0, x7)]) rfl ?_
      refine V.aload_n (t := 11) hc dX11_link_29 rfl rfl ?_
      refine V.iconst hc dX11_link_30 ?_
      refine V.pI hc pI_X11_13 rfl dX11_link_31 (fun h8 e => ?_)
      replace hw := hw h8 e
      clear e
      refine V.iload_n hc dX11_link_34 rfl rfl ?_
      obtain ⟨g9, hw⟩ := hw
      refine V.if_eq hc (tgt := 61) dX11_link_35 (by decide) g9 (fun c10 => ?_) (fun c10 => ?_)
      · replace hw := hw.1 c10
        refine V.aload_n (t := 11) hc dX11_link_61 rfl rfl ?_
        refine V.iconst hc dX11_link_62 ?_
        refine V.pI hc pI_X11_17 rfl dX11_link_63 (fun h11 e => ?_)
        replace hw := hw h11 e
        clear e
        refine V.aload_n (t := 11) hc dX11_link_66 rfl rfl ?_
        refine V.gR hc gR_X11_26 (i' := 1) rfl dX11_link_67 ?_
        refine V.aload_n (t := 11) hc dX11_link_70 rfl rfl ?_
        refine V.gR hc gR_X11_30 (i' := 2) rfl dX11_link_71 ?_
        refine V.callVV hc (qX8_copyFrom G l _ _ _ _ hw) mo_X8_copyFrom ml_X11_140 (by rfl) rfl rfl (as := [(18, 2)]) rfl rfl rfl rfl rfl ⟨by show _ ≤ 1; omega, by show _ ≤ 6 * 1; omega⟩ dX11_link_74 (fun h12 hw => ?_)
        refine V.aload_n (t := 11) hc dX11_link_77 rfl rfl ?_
        refine V.gR hc gR_X11_47 (i' := 10) rfl dX11_link_78 ?_
        refine V.callVV hc (qX6_begin G l _ _ _ hw) mo_X6_begin ml_X11_143 (by rfl) rfl rfl (as := []) rfl rfl rfl rfl rfl ⟨by show _ ≤ 1; omega, by show _ ≤ 6 * 1; omega⟩ dX11_link_81 (fun h13 hw => ?_)
        refine V.aload_n (t := 11) hc dX11_link_84 rfl rfl ?_
        refine V.gR hc gR_X11_54 (i' := 3) rfl dX11_link_85 ?_
        refine V.callVV hc (qX5_clear G l _ _ _ hw) mo_X5_clear ml_X11_146 (by rfl) rfl rfl (as := []) rfl rfl rfl rfl rfl ⟨by show _ ≤ 1; omega, by show _ ≤ 6 * 1; omega⟩ dX11_link_88 (fun h14 hw => ?_)
        refine V.aload_n (t := 11) hc dX11_link_91 rfl rfl ?_
        refine V.gR hc gR_X11_61 (i' := 5) rfl dX11_link_92 ?_
        refine V.callVV hc (qX7_clear G l _ _ _ hw) mo_X7_clear ml_X11_149 (by rfl) rfl rfl (as := []) rfl rfl rfl rfl rfl ⟨by show _ ≤ 1; omega, by show _ ≤ 6 * 1; omega⟩ dX11_link_95 (fun h15 hw => ?_)
        refine V.aload_n (t := 11) hc dX11_link_98 rfl rfl ?_
        refine V.iconst hc dX11_link_99 ?_
        refine V.pZ hc pI_X11_65 rfl (by omega) dX11_link_100 (fun h16 e => ?_)
        replace hw := hw h16 e
        clear e
        refine V.iconst hc dX11_link_103 ?_
        exact V.xiret hc hr dX11_link_104 rfl hw
      · replace hw := hw.2 c10
        refine V.aload_n (t := 11) hc dX11_link_38 rfl rfl ?_
        refine V.aload_n (t := 11) hc dX11_link_39 rfl rfl ?_
        refine V.gR hc gR_X11_38 (i' := 0) rfl dX11_link_40 ?_
        refine V.callVI hc (qX9_place G l _ _ _ hw) mo_X9_place ml_X11_136 (by rfl) rfl rfl (as := []) rfl rfl rfl rfl rfl ⟨by show _ ≤ 1; omega, by show _ ≤ 6 * 1; omega⟩ dX11_link_43 (fun x18 h17 hw => ?_)
        refine V.pI hc pI_X11_17 rfl dX11_link_46 (fun h19 e => ?_)
        replace hw := hw h19 e
        clear e
        refine V.aload_n (t := 11) hc dX11_link_49 rfl rfl ?_
        refine V.gR hc gR_X11_20 (i' := o) rfl dX11_link_50 ?_
        refine V.iconst hc dX11_link_53 ?_
        refine V.dup2 hc dX11_link_54 (by simp) (by simp) ?_
        refine V.ald hc ak_46 (by omega) dX11_link_55 ?_
        refine V.iconst hc dX11_link_56 ?_
        refine V.iadd hc dX11_link_57 ?_
        refine V.ast hc ak_46 (by omega) dX11_link_58 (fun h20 e => ?_)
        replace hw := hw h20 e
        clear e
        refine V.iload_n hc dX11_link_59 rfl rfl ?_
        exact V.xiret hc hr dX11_link_60 rfl hw
    · replace hw := hw.2 c5
      exact V.throwI hc hlf hxt rfl rfl rfl dX11_link_12 dX11_link_15 dX11_link_16 dX11_link_19 hw
theorem qX11_fault (G : GG) (l : Launch) (o : Int) (h : HP) (P : Int → HP → Prop) (hw : wX11_fault o h P) : CnI l G yX11_fault cX11_fault 1 (some .int) 8 [(21, o)] h P := by
  refine CnI.of (lo := [(21, o)]) (by decide) rfl rfl rfl ?_
  intro p e s m args below meth c hc hr
  have hc : VC G p (rmD 8 0) s m args meth c RX11 cX11_fault 1 8 := hc
  refine V.aload_n (t := 11) hc dX11_fault_0 rfl rfl ?_
  refine V.gI hc gI_X11_17 rfl dX11_fault_1 ?_
  exact V.iret hc hr dX11_fault_4 hw
theorem qX11_count (G : GG) (l : Launch) (hlf : l.stackTraces = false) (o : Int) (a1 : Int) (h : HP) (P : Int → HP → Prop) (X : Nat → HP → Prop) (hw : wX11_count o a1 h P X) : CxI l G yX11_count cX11_count 2 (some .int) 11 1 [(21, o), (0, a1)] h P X := by
  refine CxI.of (lo := [(21, o), (0, a1)]) (by decide) rfl rfl rfl ?_
  intro p e s m args below meth c hc hr hxt
  have hc : VC G p (rmD 11 1) s m args meth c RX11 cX11_count 2 11 := hc
  refine V.iload_n hc dX11_count_0 rfl rfl ?_
  obtain ⟨g1, hw⟩ := hw
  by_cases c2 : a1 = 0
  · replace hw := hw.1 c2
    refine V.tswIn hc 0 c2 (by decide) (by decide) (by decide) (tgt := 88) dX11_count_1 rfl (by decide) ?_
    refine V.aload_n (t := 11) hc dX11_count_88 rfl rfl ?_
    refine V.gR hc gR_X11_26 (i' := 1) rfl dX11_count_89 ?_
    refine V.gI hc gI_X11_150 rfl dX11_count_92 ?_
    exact V.xiret hc hr dX11_count_95 rfl hw
  replace hw := hw.2 c2
  by_cases c3 : a1 = 1
  · replace hw := hw.1 c3
    refine V.tswIn hc 1 c3 (by decide) (by decide) (by decide) (tgt := 96) dX11_count_1 rfl (by decide) ?_
    refine V.aload_n (t := 11) hc dX11_count_96 rfl rfl ?_
    refine V.gR hc gR_X11_26 (i' := 1) rfl dX11_count_97 ?_
    refine V.gI hc gI_X11_153 rfl dX11_count_100 ?_
    exact V.xiret hc hr dX11_count_103 rfl hw
  replace hw := hw.2 c3
  by_cases c4 : a1 = 2
  · replace hw := hw.1 c4
    refine V.tswIn hc 2 c4 (by decide) (by decide) (by decide) (tgt := 104) dX11_count_1 rfl (by decide) ?_
    refine V.aload_n (t := 11) hc dX11_count_104 rfl rfl ?_
    refine V.gR hc gR_X11_47 (i' := 10) rfl dX11_count_105 ?_
    refine V.gI hc gI_X11_156 rfl dX11_count_108 ?_
    exact V.xiret hc hr dX11_count_111 rfl hw
  replace hw := hw.2 c4
  by_cases c5 : a1 = 3
  · replace hw := hw.1 c5
    refine V.tswIn hc 3 c5 (by decide) (by decide) (by decide) (tgt := 112) dX11_count_1 rfl (by decide) ?_
    refine V.aload_n (t := 11) hc dX11_count_112 rfl rfl ?_
    refine V.gR hc gR_X11_47 (i' := 10) rfl dX11_count_113 ?_
    refine V.gI hc gI_X11_159 rfl dX11_count_116 ?_
    exact V.xiret hc hr dX11_count_119 rfl hw
  replace hw := hw.2 c5
  by_cases c6 : a1 = 4
  · replace hw := hw.1 c6
    refine V.tswIn hc 4 c6 (by decide) (by decide) (by decide) (tgt := 120) dX11_count_1 rfl (by decide) ?_
    refine V.aload_n (t := 11) hc dX11_count_120 rfl rfl ?_
    refine V.gR hc gR_X11_47 (i' := 10) rfl dX11_count_121 ?_
    refine V.callVI hc (qX6_activeLeaves G l _ _ _ hw) mo_X6_activeLeaves ml_X11_162 (by rfl) rfl rfl (as := []) rfl rfl rfl rfl rfl ⟨by show _ ≤ 1; omega, by show _ ≤ 6 * 1; omega⟩ dX11_count_124 (fun x8 h7 hw => ?_)
    exact V.xiret hc hr dX11_count_127 rfl hw
  replace hw := hw.2 c6
  by_cases c9 : a1 = 5
  · replace hw := hw.1 c9
    refine V.tswIn hc 5 c9 (by decide) (by decide) (by decide) (tgt := 128) dX11_count_1 rfl (by decide) ?_
    refine V.aload_n (t := 11) hc dX11_count_128 rfl rfl ?_
    refine V.gR hc gR_X11_47 (i' := 10) rfl dX11_count_129 ?_
    refine V.gR hc gR_X11_165 (i' := 10) rfl dX11_count_132 ?_
    refine V.bipush hc dX11_count_135 (by decide) ?_
    refine V.ald hc ak_29 (by omega) dX11_count_137 ?_
    exact V.xiret hc hr dX11_count_138 rfl hw
  replace hw := hw.2 c9
  by_cases c10 : a1 = 6
  · replace hw := hw.1 c10
    refine V.tswIn hc 6 c10 (by decide) (by decide) (by decide) (tgt := 139) dX11_count_1 rfl (by decide) ?_
    refine V.aload_n (t := 11) hc dX11_count_139 rfl rfl ?_
    refine V.gR hc gR_X11_47 (i' := 10) rfl dX11_count_140 ?_
    refine V.gI hc gI_X11_168 rfl dX11_count_143 ?_
    exact V.xiret hc hr dX11_count_146 rfl hw
  replace hw := hw.2 c10
  by_cases c11 : a1 = 7
  · replace hw := hw.1 c11
    refine V.tswIn hc 7 c11 (by decide) (by decide) (by decide) (tgt := 147) dX11_count_1 rfl (by decide) ?_
    refine V.aload_n (t := 11) hc dX11_count_147 rfl rfl ?_
    refine V.gR hc gR_X11_47 (i' := 10) rfl dX11_count_148 ?_
    refine V.gI hc gI_X11_171 rfl dX11_count_151 ?_
    exact V.xiret hc hr dX11_count_154 rfl hw
  replace hw := hw.2 c11
  by_cases c12 : a1 = 8
  · replace hw := hw.1 c12
    refine V.tswIn hc 8 c12 (by decide) (by decide) (by decide) (tgt := 155) dX11_count_1 rfl (by decide) ?_
    refine V.aload_n (t := 11) hc dX11_count_155 rfl rfl ?_
    refine V.gR hc gR_X11_47 (i' := 10) rfl dX11_count_156 ?_
    refine V.callVI hc (qX6_allLost G l _ _ _ hw) mo_X6_allLost ml_X11_174 (by rfl) rfl rfl (as := []) rfl rfl rfl rfl rfl ⟨by show _ ≤ 1; omega, by show _ ≤ 6 * 1; omega⟩ dX11_count_159 (fun x14 h13 hw => ?_)
    exact V.xiret hc hr dX11_count_162 rfl hw
  replace hw := hw.2 c12
  by_cases c15 : a1 = 9
  · replace hw := hw.1 c15
    refine V.tswIn hc 9 c15 (by decide) (by decide) (by decide) (tgt := 163) dX11_count_1 rfl (by decide) ?_
    refine V.aload_n (t := 11) hc dX11_count_163 rfl rfl ?_
    refine V.gR hc gR_X11_47 (i' := 10) rfl dX11_count_164 ?_
    refine V.gR hc gR_X11_177 (i' := 10) rfl dX11_count_167 ?_
    refine V.bipush hc dX11_count_170 (by decide) ?_
    refine V.ald hc ak_27 (by omega) dX11_count_172 ?_
    exact V.xiret hc hr dX11_count_173 rfl hw
  replace hw := hw.2 c15
  by_cases c16 : a1 = 10
  · replace hw := hw.1 c16
    refine V.tswIn hc 10 c16 (by decide) (by decide) (by decide) (tgt := 174) dX11_count_1 rfl (by decide) ?_
    refine V.aload_n (t := 11) hc dX11_count_174 rfl rfl ?_
    refine V.gR hc gR_X11_47 (i' := 10) rfl dX11_count_175 ?_
    refine V.callVI hc (qX6_allSent G l _ _ _ hw) mo_X6_allSent ml_X11_180 (by rfl) rfl rfl (as := []) rfl rfl rfl rfl rfl ⟨by show _ ≤ 1; omega, by show _ ≤ 6 * 1; omega⟩ dX11_count_178 (fun x18 h17 hw => ?_)
    exact V.xiret hc hr dX11_count_181 rfl hw
  replace hw := hw.2 c16
  by_cases c19 : a1 = 11
  · replace hw := hw.1 c19
    refine V.tswIn hc 11 c19 (by decide) (by decide) (by decide) (tgt := 182) dX11_count_1 rfl (by decide) ?_
    refine V.aload_n (t := 11) hc dX11_count_182 rfl rfl ?_
    refine V.gR hc gR_X11_47 (i' := 10) rfl dX11_count_183 ?_
    refine V.gI hc gI_X11_183 rfl dX11_count_186 ?_
    exact V.xiret hc hr dX11_count_189 rfl hw
  replace hw := hw.2 c19
  by_cases c20 : a1 = 12
  · replace hw := hw.1 c20
    refine V.tswIn hc 12 c20 (by decide) (by decide) (by decide) (tgt := 190) dX11_count_1 rfl (by decide) ?_
    refine V.aload_n (t := 11) hc dX11_count_190 rfl rfl ?_
    refine V.gR hc gR_X11_54 (i' := 3) rfl dX11_count_191 ?_
    refine V.callVI hc (qX5_size G l _ _ _ hw) mo_X5_size ml_X11_186 (by rfl) rfl rfl (as := []) rfl rfl rfl rfl rfl ⟨by show _ ≤ 1; omega, by show _ ≤ 6 * 1; omega⟩ dX11_count_194 (fun x22 h21 hw => ?_)
    exact V.xiret hc hr dX11_count_197 rfl hw
  replace hw := hw.2 c20
  by_cases c23 : a1 = 13
  · replace hw := hw.1 c23
    refine V.tswIn hc 13 c23 (by decide) (by decide) (by decide) (tgt := 198) dX11_count_1 rfl (by decide) ?_
    refine V.aload_n (t := 11) hc dX11_count_198 rfl rfl ?_
    refine V.gR hc gR_X11_61 (i' := 5) rfl dX11_count_199 ?_
    refine V.gI hc gI_X11_189 rfl dX11_count_202 ?_
    exact V.xiret hc hr dX11_count_205 rfl hw
  replace hw := hw.2 c23
  by_cases c24 : a1 = 14
  · replace hw := hw.1 c24
    refine V.tswIn hc 14 c24 (by decide) (by decide) (by decide) (tgt := 206) dX11_count_1 rfl (by decide) ?_
    refine V.aload_n (t := 11) hc dX11_count_206 rfl rfl ?_
    refine V.gI hc gI_X11_13 rfl dX11_count_207 ?_
    exact V.xiret hc hr dX11_count_210 rfl hw
  replace hw := hw.2 c24
  by_cases c25 : a1 = 15
  · replace hw := hw.1 c25
    refine V.tswIn hc 15 c25 (by decide) (by decide) (by decide) (tgt := 211) dX11_count_1 rfl (by decide) ?_
    refine V.aload_n (t := 11) hc dX11_count_211 rfl rfl ?_
    refine V.gR hc gR_X11_20 (i' := o) rfl dX11_count_212 ?_
    refine V.iconst hc dX11_count_215 ?_
    refine V.ald hc ak_46 (by omega) dX11_count_216 ?_
    exact V.xiret hc hr dX11_count_217 rfl hw
  replace hw := hw.2 c25
  by_cases c26 : a1 = 16
  · replace hw := hw.1 c26
    refine V.tswIn hc 16 c26 (by decide) (by decide) (by decide) (tgt := 218) dX11_count_1 rfl (by decide) ?_
    refine V.aload_n (t := 11) hc dX11_count_218 rfl rfl ?_
    refine V.gR hc gR_X11_20 (i' := o) rfl dX11_count_219 ?_
    refine V.iconst hc dX11_count_222 ?_
    refine V.ald hc ak_46 (by omega) dX11_count_223 ?_
    exact V.xiret hc hr dX11_count_224 rfl hw
  replace hw := hw.2 c26
  by_cases c27 : a1 = 17
  · replace hw := hw.1 c27
    refine V.tswIn hc 17 c27 (by decide) (by decide) (by decide) (tgt := 225) dX11_count_1 rfl (by decide) ?_
    refine V.aload_n (t := 11) hc dX11_count_225 rfl rfl ?_
    refine V.gR hc gR_X11_20 (i' := o) rfl dX11_count_226 ?_
    refine V.iconst hc dX11_count_229 ?_
    refine V.ald hc ak_46 (by omega) dX11_count_230 ?_
    exact V.xiret hc hr dX11_count_231 rfl hw
  replace hw := hw.2 c27
  refine V.tswOut hc (tgt := 232) g1 dX11_count_1 (by omega) (by decide) ?_
  exact V.throwN hc hlf hxt rfl rfl rfl dX11_count_232 dX11_count_235 dX11_count_236 dX11_count_239 hw
theorem qX11_needClass (G : GG) (l : Launch) (hlf : l.stackTraces = false) (o : Int) (a1 : Int) (h : HP) (P : HP → Prop) (X : Nat → HP → Prop) (hw : wX11_needClass o a1 h P X) : CxV l G yX11_needClass cX11_needClass 2 9 1 [(21, o), (0, a1)] h P X := by
  refine CxV.of (lo := [(21, o), (0, a1)]) (by decide) rfl rfl rfl ?_
  intro p e s m args below meth c hc hr hxt
  have hc : VC G p (rmD 9 1) s m args meth c RX11 cX11_needClass 2 9 := hc
  refine V.aload_n (t := 11) hc dX11_needClass_0 rfl rfl ?_
  refine V.gR hc gR_X11_26 (i' := 1) rfl dX11_needClass_1 ?_
  refine V.iload_n hc dX11_needClass_4 rfl rfl ?_
  refine V.callVI hc (qX8_hasClass G l _ _ _ _ hw) mo_X8_hasClass ml_X11_278 (by rfl) rfl rfl (as := [(0, a1)]) rfl rfl rfl rfl rfl ⟨by show _ ≤ 1; omega, by show _ ≤ 6 * 1; omega⟩ dX11_needClass_5 (fun x2 h1 hw => ?_)
  obtain ⟨g3, hw⟩ := hw
  refine V.if_ne hc (tgt := 19) dX11_needClass_8 (by decide) g3 (fun c4 => ?_) (fun c4 => ?_)
  · replace hw := hw.1 c4
    exact V.xvret hc hr dX11_needClass_19 rfl hw
  · replace hw := hw.2 c4
    exact V.throwN hc hlf hxt rfl rfl rfl dX11_needClass_11 dX11_needClass_14 dX11_needClass_15 dX11_needClass_18 hw
theorem qX11_of (G : GG) (l : Launch) (hlf : l.stackTraces = false) (o : Int) (a1 : Int) (a2 : Int) (h : HP) (P : Int → HP → Prop) (X : Nat → HP → Prop) (hw : wX11_of o a1 a2 h P X) : CxI l G yX11_of cX11_of 3 (some .int) 11 2 [(21, o), (0, a1), (0, a2)] h P X := by
  refine CxI.of (lo := [(21, o), (0, a1), (0, a2)]) (by decide) rfl rfl rfl ?_
  intro p e s m args below meth c hc hr hxt
  have hc : VC G p (rmD 11 2) s m args meth c RX11 cX11_of 3 11 := hc
  refine V.aload_n (t := 11) hc dX11_of_0 rfl rfl ?_
  refine V.iload_n hc dX11_of_1 rfl rfl ?_
  refine V.callVVx hc hxt rfl (qX11_needClass G l hlf _ _ _ _ _ hw) mo_X11_needClass ml_X11_195 (by rfl) rfl rfl (as := [(0, a1)]) rfl rfl rfl rfl rfl rfl dX11_of_2 (fun h1 hw => ?_)
  refine V.iload_n hc dX11_of_5 rfl rfl ?_
  obtain ⟨g2, hw⟩ := hw
  by_cases c3 : a2 = 0
  · replace hw := hw.1 c3
    refine V.tswIn hc 0 c3 (by decide) (by decide) (by decide) (tgt := 60) dX11_of_6 rfl (by decide) ?_
    refine V.aload_n (t := 11) hc dX11_of_60 rfl rfl ?_
    refine V.gR hc gR_X11_26 (i' := 1) rfl dX11_of_61 ?_
    refine V.gR hc gR_X11_198 (i' := 1) rfl dX11_of_64 ?_
    refine V.iload_n hc dX11_of_67 rfl rfl ?_
    obtain ⟨g4, hw⟩ := hw
    refine V.ald hc ak_37 g4 dX11_of_68 ?_
    refine V.bipush hc dX11_of_69 (by decide) ?_
    obtain ⟨q8, hw⟩ := hw
    have kJ9 : ∀ t7 : Int, ((¬ h1 37 1 a1 = 12 → t7 = h1 37 1 a1) ∧ (h1 37 1 a1 = 12 → t7 = (-1))) → V G p l e (rmD 11 2) s m args below meth c (vx_MQ below (QI G P) (XX G X) args s 2 (6 * 2) (va_Aof G)) 3 87 [(1, 0), (1, 0), (1, 0)] [(0, t7)] h1 (0 + 1) := by
      intro t7 he
      replace hw := hw t7 he
      clear he
      exact V.xiret hc hr dX11_of_87 rfl hw
    obtain ⟨g5, q10⟩ := q8
    refine V.icmp_ne hc (tgt := 78) dX11_of_71 (by decide) g5 (by omega) (fun c11 => ?_) (fun c11 => ?_)
    · have q12 := q10 c11
      have g6 := q12
      refine V.aload_n (t := 11) hc dX11_of_78 rfl rfl ?_
      refine V.gR hc gR_X11_26 (i' := 1) rfl dX11_of_79 ?_
      refine V.gR hc gR_X11_198 (i' := 1) rfl dX11_of_82 ?_
      refine V.iload_n hc dX11_of_85 rfl rfl ?_
      refine V.ald hc ak_37 g6 dX11_of_86 ?_
      refine V.drop (lo' := [(1, 0), (1, 0), (1, 0)]) ⟨Or.inl rfl, Or.inl rfl, Or.inl rfl, trivial⟩ ?_
      exact kJ9 _ ⟨fun _ => rfl, (fun q => absurd q c11)⟩
    · refine V.iconst hc dX11_of_74 ?_
      refine V.goto hc (tgt := 87) dX11_of_75 (by decide) ?_
      refine V.drop (lo' := [(1, 0), (1, 0), (1, 0)]) ⟨Or.inl rfl, Or.inl rfl, Or.inl rfl, trivial⟩ ?_
      exact kJ9 _ ⟨(fun q => absurd c11 q), fun _ => rfl⟩
  replace hw := hw.2 c3
  by_cases c13 : a2 = 1
  · replace hw := hw.1 c13
    refine V.tswIn hc 1 c13 (by decide) (by decide) (by decide) (tgt := 88) dX11_of_6 rfl (by decide) ?_
    refine V.aload_n (t := 11) hc dX11_of_88 rfl rfl ?_
    refine V.gR hc gR_X11_26 (i' := 1) rfl dX11_of_89 ?_
    refine V.iload_n hc dX11_of_92 rfl rfl ?_
    refine V.callVI hc (qX8_isLeaf G l _ _ _ _ hw) mo_X8_isLeaf ml_X11_201 (by rfl) rfl rfl (as := [(0, a1)]) rfl rfl rfl rfl rfl ⟨by show _ ≤ 2; omega, by show _ ≤ 6 * 2; omega⟩ dX11_of_93 (fun x15 h14 hw => ?_)
    obtain ⟨q18, hw⟩ := hw
    have kJ19 : ∀ t17 : Int, ((x15 = 0 → t17 = 0) ∧ (¬ x15 = 0 → t17 = 1)) → V G p l e (rmD 11 2) s m args below meth c (vx_MQ below (QI G P) (XX G X) args s 2 (6 * 2) (va_Aof G)) 3 104 [(1, 0), (1, 0), (1, 0)] [(0, t17)] h14 (0 + 1) := by
      intro t17 he
      replace hw := hw t17 he
      clear he
      exact V.xiret hc hr dX11_of_104 rfl hw
    have g16 := q18
    refine V.if_eq hc (tgt := 103) dX11_of_96 (by decide) g16 (fun c20 => ?_) (fun c20 => ?_)
    · refine V.iconst hc dX11_of_103 ?_
      refine V.drop (lo' := [(1, 0), (1, 0), (1, 0)]) ⟨Or.inl rfl, Or.inl rfl, Or.inl rfl, trivial⟩ ?_
      exact kJ19 _ ⟨fun _ => rfl, (fun q => absurd c20 q)⟩
    · refine V.iconst hc dX11_of_99 ?_
      refine V.goto hc (tgt := 104) dX11_of_100 (by decide) ?_
      refine V.drop (lo' := [(1, 0), (1, 0), (1, 0)]) ⟨Or.inl rfl, Or.inl rfl, Or.inl rfl, trivial⟩ ?_
      exact kJ19 _ ⟨(fun q => absurd q c20), fun _ => rfl⟩
  replace hw := hw.2 c13
  by_cases c21 : a2 = 2
  · replace hw := hw.1 c21
    refine V.tswIn hc 2 c21 (by decide) (by decide) (by decide) (tgt := 105) dX11_of_6 rfl (by decide) ?_
    refine V.aload_n (t := 11) hc dX11_of_105 rfl rfl ?_
    refine V.gR hc gR_X11_47 (i' := 10) rfl dX11_of_106 ?_
    refine V.iload_n hc dX11_of_109 rfl rfl ?_
    refine V.callVI hc (qX6_isActive G l _ _ _ _ hw) mo_X6_isActive ml_X11_205 (by rfl) rfl rfl (as := [(0, a1)]) rfl rfl rfl rfl rfl ⟨by show _ ≤ 2; omega, by show _ ≤ 6 * 2; omega⟩ dX11_of_110 (fun x23 h22 hw => ?_)
    obtain ⟨q26, hw⟩ := hw
    have kJ27 : ∀ t25 : Int, ((x23 = 0 → t25 = 0) ∧ (¬ x23 = 0 → t25 = 1)) → V G p l e (rmD 11 2) s m args below meth c (vx_MQ below (QI G P) (XX G X) args s 2 (6 * 2) (va_Aof G)) 3 121 [(1, 0), (1, 0), (1, 0)] [(0, t25)] h22 (0 + 1) := by
      intro t25 he
      replace hw := hw t25 he
      clear he
      exact V.xiret hc hr dX11_of_121 rfl hw
    have g24 := q26
    refine V.if_eq hc (tgt := 120) dX11_of_113 (by decide) g24 (fun c28 => ?_) (fun c28 => ?_)
    · refine V.iconst hc dX11_of_120 ?_
      refine V.drop (lo' := [(1, 0), (1, 0), (1, 0)]) ⟨Or.inl rfl, Or.inl rfl, Or.inl rfl, trivial⟩ ?_
      exact kJ27 _ ⟨fun _ => rfl, (fun q => absurd c28 q)⟩
    · refine V.iconst hc dX11_of_116 ?_
      refine V.goto hc (tgt := 121) dX11_of_117 (by decide) ?_
      refine V.drop (lo' := [(1, 0), (1, 0), (1, 0)]) ⟨Or.inl rfl, Or.inl rfl, Or.inl rfl, trivial⟩ ?_
      exact kJ27 _ ⟨(fun q => absurd q c28), fun _ => rfl⟩
  replace hw := hw.2 c21
  by_cases c29 : a2 = 3
  · replace hw := hw.1 c29
    refine V.tswIn hc 3 c29 (by decide) (by decide) (by decide) (tgt := 122) dX11_of_6 rfl (by decide) ?_
    refine V.aload_n (t := 11) hc dX11_of_122 rfl rfl ?_
    refine V.gR hc gR_X11_47 (i' := 10) rfl dX11_of_123 ?_
    refine V.gR hc gR_X11_208 (i' := 10) rfl dX11_of_126 ?_
    refine V.iload_n hc dX11_of_129 rfl rfl ?_
    obtain ⟨g30, hw⟩ := hw
    refine V.ald hc ak_24 g30 dX11_of_130 ?_
    exact V.xiret hc hr dX11_of_131 rfl hw
  replace hw := hw.2 c29
  by_cases c31 : a2 = 4
  · replace hw := hw.1 c31
    refine V.tswIn hc 4 c31 (by decide) (by decide) (by decide) (tgt := 132) dX11_of_6 rfl (by decide) ?_
    refine V.aload_n (t := 11) hc dX11_of_132 rfl rfl ?_
    refine V.gR hc gR_X11_47 (i' := 10) rfl dX11_of_133 ?_
    refine V.gR hc gR_X11_211 (i' := 10) rfl dX11_of_136 ?_
    refine V.iload_n hc dX11_of_139 rfl rfl ?_
    obtain ⟨g32, hw⟩ := hw
    refine V.ald hc ak_25 g32 dX11_of_140 ?_
    exact V.xiret hc hr dX11_of_141 rfl hw
  replace hw := hw.2 c31
  by_cases c33 : a2 = 5
  · replace hw := hw.1 c33
    refine V.tswIn hc 5 c33 (by decide) (by decide) (by decide) (tgt := 142) dX11_of_6 rfl (by decide) ?_
    refine V.aload_n (t := 11) hc dX11_of_142 rfl rfl ?_
    refine V.gR hc gR_X11_47 (i' := 10) rfl dX11_of_143 ?_
    refine V.gR hc gR_X11_214 (i' := 10) rfl dX11_of_146 ?_
    refine V.iload_n hc dX11_of_149 rfl rfl ?_
    obtain ⟨g34, hw⟩ := hw
    refine V.ald hc ak_26 g34 dX11_of_150 ?_
    exact V.xiret hc hr dX11_of_151 rfl hw
  replace hw := hw.2 c33
  by_cases c35 : a2 = 6
  · replace hw := hw.1 c35
    refine V.tswIn hc 6 c35 (by decide) (by decide) (by decide) (tgt := 152) dX11_of_6 rfl (by decide) ?_
    refine V.aload_n (t := 11) hc dX11_of_152 rfl rfl ?_
    refine V.gR hc gR_X11_47 (i' := 10) rfl dX11_of_153 ?_
    refine V.gR hc gR_X11_177 (i' := 10) rfl dX11_of_156 ?_
    refine V.iload_n hc dX11_of_159 rfl rfl ?_
    obtain ⟨g36, hw⟩ := hw
    refine V.ald hc ak_27 g36 dX11_of_160 ?_
    exact V.xiret hc hr dX11_of_161 rfl hw
  replace hw := hw.2 c35
  by_cases c37 : a2 = 7
  · replace hw := hw.1 c37
    refine V.tswIn hc 7 c37 (by decide) (by decide) (by decide) (tgt := 162) dX11_of_6 rfl (by decide) ?_
    refine V.aload_n (t := 11) hc dX11_of_162 rfl rfl ?_
    refine V.gR hc gR_X11_47 (i' := 10) rfl dX11_of_163 ?_
    refine V.gR hc gR_X11_217 (i' := 10) rfl dX11_of_166 ?_
    refine V.iload_n hc dX11_of_169 rfl rfl ?_
    obtain ⟨g38, hw⟩ := hw
    refine V.ald hc ak_28 g38 dX11_of_170 ?_
    exact V.xiret hc hr dX11_of_171 rfl hw
  replace hw := hw.2 c37
  by_cases c39 : a2 = 8
  · replace hw := hw.1 c39
    refine V.tswIn hc 8 c39 (by decide) (by decide) (by decide) (tgt := 172) dX11_of_6 rfl (by decide) ?_
    refine V.aload_n (t := 11) hc dX11_of_172 rfl rfl ?_
    refine V.gR hc gR_X11_47 (i' := 10) rfl dX11_of_173 ?_
    refine V.iload_n hc dX11_of_176 rfl rfl ?_
    refine V.callVI hc (qX6_packets G l _ _ _ _ hw) mo_X6_packets ml_X11_220 (by rfl) rfl rfl (as := [(0, a1)]) rfl rfl rfl rfl rfl ⟨by show _ ≤ 2; omega, by show _ ≤ 6 * 2; omega⟩ dX11_of_177 (fun x41 h40 hw => ?_)
    exact V.xiret hc hr dX11_of_180 rfl hw
  replace hw := hw.2 c39
  by_cases c42 : a2 = 9
  · replace hw := hw.1 c42
    refine V.tswIn hc 9 c42 (by decide) (by decide) (by decide) (tgt := 181) dX11_of_6 rfl (by decide) ?_
    refine V.aload_n (t := 11) hc dX11_of_181 rfl rfl ?_
    refine V.gR hc gR_X11_47 (i' := 10) rfl dX11_of_182 ?_
    refine V.iload_n hc dX11_of_185 rfl rfl ?_
    refine V.callVI hc (qX6_bytes G l _ _ _ _ hw) mo_X6_bytes ml_X11_223 (by rfl) rfl rfl (as := [(0, a1)]) rfl rfl rfl rfl rfl ⟨by show _ ≤ 2; omega, by show _ ≤ 6 * 2; omega⟩ dX11_of_186 (fun x44 h43 hw => ?_)
    exact V.xiret hc hr dX11_of_189 rfl hw
  replace hw := hw.2 c42
  refine V.tswOut hc (tgt := 190) g2 dX11_of_6 (by omega) (by decide) ?_
  exact V.throwN hc hlf hxt rfl rfl rfl dX11_of_190 dX11_of_193 dX11_of_194 dX11_of_197 hw
theorem qX11_isCurve (G : GG) (l : Launch) (a0 : Int) (h : HP) (P : Int → HP → Prop) (hw : wX11_isCurve a0 h P) : CnI l G yX11_isCurve cX11_isCurve 1 (some .boolean) 8 [(0, a0)] h P := by
  refine CnI.of (lo := [(0, a0)]) (by decide) rfl rfl rfl ?_
  intro p e s m args below meth c hc hr
  have hc : VC G p (rmD 8 0) s m args meth c RX11 cX11_isCurve 1 8 := hc
  refine V.iload_n hc dX11_isCurve_0 rfl rfl ?_
  obtain ⟨q4, hw⟩ := hw
  have kJ6 : ∀ t3 : Int, ((a0 < 0 → t3 = 0) ∧ (¬ a0 < 0 → ((3 ≤ a0 → t3 = 0) ∧ (¬ 3 ≤ a0 → t3 = 1)))) → V G p l e (rmD 8 0) s m args below meth c (MQ below (QI G P) args s 0 0 (va_Aof G)) 1 14 [(1, 0)] [(0, t3)] h 0 := by
    intro t3 he
    replace hw := hw t3 he
    clear he
    obtain ⟨g5, hw⟩ := hw
    exact V.zret hc hr dX11_isCurve_14 g5 hw
  obtain ⟨g1, q7⟩ := q4
  refine V.if_lt hc (tgt := 13) dX11_isCurve_1 (by decide) g1 (fun c8 => ?_) (fun c8 => ?_)
  · refine V.iconst hc dX11_isCurve_13 ?_
    refine V.drop (lo' := [(1, 0)]) ⟨Or.inl rfl, trivial⟩ ?_
    exact kJ6 _ ⟨fun _ => rfl, (fun q => absurd c8 q)⟩
  · have q9 := q7 c8
    have g2 := q9
    refine V.iload_n hc dX11_isCurve_4 rfl rfl ?_
    refine V.iconst hc dX11_isCurve_5 ?_
    refine V.icmp_ge hc (tgt := 13) dX11_isCurve_6 (by decide) g2 (by omega) (fun c10 => ?_) (fun c10 => ?_)
    · refine V.iconst hc dX11_isCurve_13 ?_
      refine V.drop (lo' := [(1, 0)]) ⟨Or.inl rfl, trivial⟩ ?_
      exact kJ6 _ ⟨(fun q => absurd q c8), fun _ => ⟨fun _ => rfl, (fun q => absurd c10 q)⟩⟩
    · refine V.iconst hc dX11_isCurve_9 ?_
      refine V.goto hc (tgt := 14) dX11_isCurve_10 (by decide) ?_
      refine V.drop (lo' := [(1, 0)]) ⟨Or.inl rfl, trivial⟩ ?_
      exact kJ6 _ ⟨(fun q => absurd q c8), fun _ => ⟨(fun q => absurd q c10), fun _ => rfl⟩⟩
theorem qX11_curve (G : GG) (l : Launch) (hlf : l.stackTraces = false) (o : Int) (a1 : Int) (a2 : Int) (a3 : Int) (h : HP) (P : Int → HP → Prop) (X : Nat → HP → Prop) (hw : wX11_curve o a1 a2 a3 h P X) : CxI l G yX11_curve cX11_curve 5 (some .int) 10 2 [(21, o), (0, a1), (0, a2), (0, a3)] h P X := by
  refine CxI.of (lo := [(21, o), (0, a1), (0, a2), (0, a3), (1, 0)]) (by decide) rfl rfl rfl ?_
  intro p e s m args below meth c hc hr hxt
  have hc : VC G p (rmD 10 2) s m args meth c RX11 cX11_curve 5 10 := hc
  refine V.aload_n (t := 11) hc dX11_curve_0 rfl rfl ?_
  refine V.iload_n hc dX11_curve_1 rfl rfl ?_
  refine V.callVVx hc hxt rfl (qX11_needClass G l hlf _ _ _ _ _ hw) mo_X11_needClass ml_X11_195 (by rfl) rfl rfl (as := [(0, a1)]) rfl rfl rfl rfl rfl rfl dX11_curve_2 (fun h1 hw => ?_)
  refine V.iload_n hc dX11_curve_5 rfl rfl ?_
  refine V.callSI hc (qX11_isCurve G l _ _ _ hw) mo_X11_isCurve ml_X11_226 (as := [(0, a2)]) rfl rfl rfl rfl rfl ⟨by show _ ≤ 2; omega, by show _ ≤ 6 * 2; omega⟩ dX11_curve_6 (fun x3 h2 hw => ?_)
  obtain ⟨g4, hw⟩ := hw
  refine V.if_eq hc (tgt := 24) dX11_curve_9 (by decide) g4 (fun c5 => ?_) (fun c5 => ?_)
  · replace hw := hw.1 c5
    exact V.throwN hc hlf hxt rfl rfl rfl dX11_curve_24 dX11_curve_27 dX11_curve_28 dX11_curve_31 hw
  · replace hw := hw.2 c5
    refine V.aload_n (t := 11) hc dX11_curve_12 rfl rfl ?_
    refine V.gR hc gR_X11_47 (i' := 10) rfl dX11_curve_13 ?_
    refine V.iload_n hc dX11_curve_16 rfl rfl ?_
    refine V.iload_n hc dX11_curve_17 rfl rfl ?_
    refine V.callVI hc (qX6_hasCurve G l _ _ _ _ _ hw) mo_X6_hasCurve ml_X11_229 (by rfl) rfl rfl (as := [(0, a1), (0, a2)]) rfl rfl rfl rfl rfl ⟨by show _ ≤ 2; omega, by show _ ≤ 6 * 2; omega⟩ dX11_curve_18 (fun x7 h6 hw => ?_)
    obtain ⟨g8, hw⟩ := hw
    refine V.if_ne hc (tgt := 32) dX11_curve_21 (by decide) g8 (fun c9 => ?_) (fun c9 => ?_)
    · replace hw := hw.1 c9
      refine V.iload_n hc dX11_curve_32 rfl rfl ?_
      refine V.iconst hc dX11_curve_33 ?_
      refine V.imul hc dX11_curve_34 ?_
      refine V.iload_n hc dX11_curve_35 rfl rfl ?_
      refine V.iadd hc dX11_curve_36 ?_
      refine V.istore hc dX11_curve_37 rfl (lo' := [(21, o), (0, a1), (0, a2), (0, a3), (0, (a1 * 3) + a2)]) rfl ?_
      refine V.iload_n hc dX11_curve_39 rfl rfl ?_
      obtain ⟨g10, hw⟩ := hw
      by_cases c11 : a3 = 0
      · replace hw := hw.1 c11
        refine V.tswIn hc 0 c11 (by decide) (by decide) (by decide) (tgt := 68) dX11_curve_40 rfl (by decide) ?_
        refine V.aload_n (t := 11) hc dX11_curve_68 rfl rfl ?_
        refine V.gR hc gR_X11_47 (i' := 10) rfl dX11_curve_69 ?_
        refine V.gR hc gR_X11_233 (i' := 10) rfl dX11_curve_72 ?_
        refine V.gR hc gR_X11_237 (i' := 10) rfl dX11_curve_75 ?_
        refine V.iload hc dX11_curve_78 rfl ?_
        obtain ⟨g12, hw⟩ := hw
        refine V.ald hc ak_13 g12 dX11_curve_80 ?_
        exact V.xiret hc hr dX11_curve_81 rfl hw
      replace hw := hw.2 c11
      by_cases c13 : a3 = 1
      · replace hw := hw.1 c13
        refine V.tswIn hc 1 c13 (by decide) (by decide) (by decide) (tgt := 82) dX11_curve_40 rfl (by decide) ?_
        refine V.aload_n (t := 11) hc dX11_curve_82 rfl rfl ?_
        refine V.gR hc gR_X11_47 (i' := 10) rfl dX11_curve_83 ?_
        refine V.gR hc gR_X11_233 (i' := 10) rfl dX11_curve_86 ?_
        refine V.gR hc gR_X11_242 (i' := 10) rfl dX11_curve_89 ?_
        refine V.iload hc dX11_curve_92 rfl ?_
        obtain ⟨g14, hw⟩ := hw
        refine V.ald hc ak_14 g14 dX11_curve_94 ?_
        exact V.xiret hc hr dX11_curve_95 rfl hw
      replace hw := hw.2 c13
      by_cases c15 : a3 = 2
      · replace hw := hw.1 c15
        refine V.tswIn hc 2 c15 (by decide) (by decide) (by decide) (tgt := 96) dX11_curve_40 rfl (by decide) ?_
        refine V.aload_n (t := 11) hc dX11_curve_96 rfl rfl ?_
        refine V.gR hc gR_X11_47 (i' := 10) rfl dX11_curve_97 ?_
        refine V.gR hc gR_X11_233 (i' := 10) rfl dX11_curve_100 ?_
        refine V.gR hc gR_X11_245 (i' := 10) rfl dX11_curve_103 ?_
        refine V.iload hc dX11_curve_106 rfl ?_
        obtain ⟨g16, hw⟩ := hw
        refine V.ald hc ak_15 g16 dX11_curve_108 ?_
        exact V.xiret hc hr dX11_curve_109 rfl hw
      replace hw := hw.2 c15
      refine V.tswOut hc (tgt := 110) g10 dX11_curve_40 (by omega) (by decide) ?_
      exact V.throwN hc hlf hxt rfl rfl rfl dX11_curve_110 dX11_curve_113 dX11_curve_114 dX11_curve_117 hw
    · replace hw := hw.2 c9
      exact V.throwN hc hlf hxt rfl rfl rfl dX11_curve_24 dX11_curve_27 dX11_curve_28 dX11_curve_31 hw
theorem qX11_packet (G : GG) (l : Launch) (hlf : l.stackTraces = false) (o : Int) (a1 : Int) (a2 : Int) (h : HP) (P : Int → HP → Prop) (X : Nat → HP → Prop) (hw : wX11_packet o a1 a2 h P X) : CxI l G yX11_packet cX11_packet 3 (some .int) 10 2 [(21, o), (0, a1), (0, a2)] h P X := by
  refine CxI.of (lo := [(21, o), (0, a1), (0, a2)]) (by decide) rfl rfl rfl ?_
  intro p e s m args below meth c hc hr hxt
  have hc : VC G p (rmD 10 2) s m args meth c RX11 cX11_packet 3 10 := hc
  refine V.aload_n (t := 11) hc dX11_packet_0 rfl rfl ?_
  refine V.iload_n hc dX11_packet_1 rfl rfl ?_
  refine V.callVVx hc hxt rfl (qX11_needClass G l hlf _ _ _ _ _ hw) mo_X11_needClass ml_X11_195 (by rfl) rfl rfl (as := [(0, a1)]) rfl rfl rfl rfl rfl rfl dX11_packet_2 (fun h1 hw => ?_)
  refine V.iload_n hc dX11_packet_5 rfl rfl ?_
  obtain ⟨g2, hw⟩ := hw
  refine V.if_lt hc (tgt := 21) dX11_packet_6 (by decide) g2 (fun c3 => ?_) (fun c3 => ?_)
  · replace hw := hw.1 c3
    exact V.throwN hc hlf hxt rfl rfl rfl dX11_packet_21 dX11_packet_24 dX11_packet_25 dX11_packet_28 hw
  · replace hw := hw.2 c3
    refine V.iload_n hc dX11_packet_9 rfl rfl ?_
    refine V.aload_n (t := 11) hc dX11_packet_10 rfl rfl ?_
    refine V.gR hc gR_X11_47 (i' := 10) rfl dX11_packet_11 ?_
    refine V.iload_n hc dX11_packet_14 rfl rfl ?_
    refine V.callVI hc (qX6_packets G l _ _ _ _ hw) mo_X6_packets ml_X11_220 (by rfl) rfl rfl (as := [(0, a1)]) rfl rfl rfl rfl rfl ⟨by show _ ≤ 2; omega, by show _ ≤ 6 * 2; omega⟩ dX11_packet_15 (fun x5 h4 hw => ?_)
    obtain ⟨g6, hw⟩ := hw
    obtain ⟨g7, hw⟩ := hw
    refine V.icmp_lt hc (tgt := 29) dX11_packet_18 (by decide) g6 g7 (fun c8 => ?_) (fun c8 => ?_)
    · replace hw := hw.1 c8
      refine V.aload_n (t := 11) hc dX11_packet_29 rfl rfl ?_
      refine V.gR hc gR_X11_47 (i' := 10) rfl dX11_packet_30 ?_
      refine V.iload_n hc dX11_packet_33 rfl rfl ?_
      refine V.iload_n hc dX11_packet_34 rfl rfl ?_
      refine V.callVI hc (qX6_sizeOf G l _ _ _ _ _ hw) mo_X6_sizeOf ml_X11_248 (by rfl) rfl rfl (as := [(0, a1), (0, a2)]) rfl rfl rfl rfl rfl ⟨by show _ ≤ 2; omega, by show _ ≤ 6 * 2; omega⟩ dX11_packet_35 (fun x10 h9 hw => ?_)
      exact V.xiret hc hr dX11_packet_38 rfl hw
    · replace hw := hw.2 c8
      exact V.throwN hc hlf hxt rfl rfl rfl dX11_packet_21 dX11_packet_24 dX11_packet_25 dX11_packet_28 hw
theorem qX11_due (G : GG) (l : Launch) (hlf : l.stackTraces = false) (o : Int) (a1 : Int) (a2 : Int) (h : HP) (P : Int → HP → Prop) (X : Nat → HP → Prop) (hw : wX11_due o a1 a2 h P X) : CxI l G yX11_due cX11_due 3 (some .int) 11 2 [(21, o), (0, a1), (0, a2)] h P X := by
  refine CxI.of (lo := [(21, o), (0, a1), (0, a2)]) (by decide) rfl rfl rfl ?_
  intro p e s m args below meth c hc hr hxt
  have hc : VC G p (rmD 11 2) s m args meth c RX11 cX11_due 3 11 := hc
  refine V.aload_n (t := 11) hc dX11_due_0 rfl rfl ?_
  refine V.iload_n hc dX11_due_1 rfl rfl ?_
  refine V.callVVx hc hxt rfl (qX11_needClass G l hlf _ _ _ _ _ hw) mo_X11_needClass ml_X11_195 (by rfl) rfl rfl (as := [(0, a1)]) rfl rfl rfl rfl rfl rfl dX11_due_2 (fun h1 hw => ?_)
  refine V.iload_n hc dX11_due_5 rfl rfl ?_
  obtain ⟨g2, hw⟩ := hw
  refine V.if_lt hc (tgt := 25) dX11_due_6 (by decide) g2 (fun c3 => ?_) (fun c3 => ?_)
  · replace hw := hw.1 c3
    exact V.throwN hc hlf hxt rfl rfl rfl dX11_due_25 dX11_due_28 dX11_due_29 dX11_due_32 hw
  · replace hw := hw.2 c3
    refine V.iload_n hc dX11_due_9 rfl rfl ?_
    refine V.iconst hc dX11_due_10 ?_
    obtain ⟨g4, hw⟩ := hw
    refine V.icmp_gt hc (tgt := 25) dX11_due_11 (by decide) g4 (by omega) (fun c5 => ?_) (fun c5 => ?_)
    · replace hw := hw.1 c5
      exact V.throwN hc hlf hxt rfl rfl rfl dX11_due_25 dX11_due_28 dX11_due_29 dX11_due_32 hw
    · replace hw := hw.2 c5
      refine V.aload_n (t := 11) hc dX11_due_14 rfl rfl ?_
      refine V.gR hc gR_X11_47 (i' := 10) rfl dX11_due_15 ?_
      refine V.iload_n hc dX11_due_18 rfl rfl ?_
      refine V.callVI hc (qX6_isActive G l _ _ _ _ hw) mo_X6_isActive ml_X11_205 (by rfl) rfl rfl (as := [(0, a1)]) rfl rfl rfl rfl rfl ⟨by show _ ≤ 2; omega, by show _ ≤ 6 * 2; omega⟩ dX11_due_19 (fun x7 h6 hw => ?_)
      obtain ⟨g8, hw⟩ := hw
      refine V.if_ne hc (tgt := 33) dX11_due_22 (by decide) g8 (fun c9 => ?_) (fun c9 => ?_)
      · replace hw := hw.1 c9
        refine V.iload_n hc dX11_due_33 rfl rfl ?_
        refine V.iconst hc dX11_due_34 ?_
        obtain ⟨g10, hw⟩ := hw
        refine V.icmp_ne hc (tgt := 47) dX11_due_35 (by decide) g10 (by omega) (fun c11 => ?_) (fun c11 => ?_)
        · replace hw := hw.1 c11
          refine V.aload_n (t := 11) hc dX11_due_47 rfl rfl ?_
          refine V.gR hc gR_X11_47 (i' := 10) rfl dX11_due_48 ?_
          refine V.iload_n hc dX11_due_51 rfl rfl ?_
          refine V.iconst hc dX11_due_52 ?_
          refine V.callVI hc (qX6_hasCurve G l _ _ _ _ _ hw) mo_X6_hasCurve ml_X11_229 (by rfl) rfl rfl (as := [(0, a1), (0, 0)]) rfl rfl rfl rfl rfl ⟨by show _ ≤ 2; omega, by show _ ≤ 6 * 2; omega⟩ dX11_due_53 (fun x13 h12 hw => ?_)
          obtain ⟨g14, hw⟩ := hw
          refine V.if_ne hc (tgt := 67) dX11_due_56 (by decide) g14 (fun c15 => ?_) (fun c15 => ?_)
          · replace hw := hw.1 c15
            refine V.iload_n hc dX11_due_67 rfl rfl ?_
            obtain ⟨g16, hw⟩ := hw
            refine V.if_ne hc (tgt := 82) dX11_due_68 (by decide) g16 (fun c17 => ?_) (fun c17 => ?_)
            · replace hw := hw.1 c17
              refine V.aload_n (t := 11) hc dX11_due_82 rfl rfl ?_
              refine V.gR hc gR_X11_47 (i' := 10) rfl dX11_due_83 ?_
              refine V.iload_n hc dX11_due_86 rfl rfl ?_
              refine V.callVI hc (qX6_deadline G l _ _ _ _ hw) mo_X6_deadline ml_X11_258 (by rfl) rfl rfl (as := [(0, a1)]) rfl rfl rfl rfl rfl ⟨by show _ ≤ 2; omega, by show _ ≤ 6 * 2; omega⟩ dX11_due_87 (fun x19 h18 hw => ?_)
              exact V.xiret hc hr dX11_due_90 rfl hw
            · replace hw := hw.2 c17
              refine V.aload_n (t := 11) hc dX11_due_71 rfl rfl ?_
              refine V.gR hc gR_X11_47 (i' := 10) rfl dX11_due_72 ?_
              refine V.iload_n hc dX11_due_75 rfl rfl ?_
              refine V.callVI hc (qX6_eligible G l _ _ _ _ hw) mo_X6_eligible ml_X11_255 (by rfl) rfl rfl (as := [(0, a1)]) rfl rfl rfl rfl rfl ⟨by show _ ≤ 2; omega, by show _ ≤ 6 * 2; omega⟩ dX11_due_76 (fun x21 h20 hw => ?_)
              refine V.goto hc (tgt := 90) dX11_due_79 (by decide) ?_
              exact V.xiret hc hr dX11_due_90 rfl hw
          · replace hw := hw.2 c15
            exact V.throwN hc hlf hxt rfl rfl rfl dX11_due_59 dX11_due_62 dX11_due_63 dX11_due_66 hw
        · replace hw := hw.2 c11
          refine V.aload_n (t := 11) hc dX11_due_38 rfl rfl ?_
          refine V.gR hc gR_X11_47 (i' := 10) rfl dX11_due_39 ?_
          refine V.iload_n hc dX11_due_42 rfl rfl ?_
          refine V.callVI hc (qX6_fitOf G l _ _ _ _ hw) mo_X6_fitOf ml_X11_252 (by rfl) rfl rfl (as := [(0, a1)]) rfl rfl rfl rfl rfl ⟨by show _ ≤ 2; omega, by show _ ≤ 6 * 2; omega⟩ dX11_due_43 (fun x23 h22 hw => ?_)
          exact V.xiret hc hr dX11_due_46 rfl hw
      · replace hw := hw.2 c9
        exact V.throwN hc hlf hxt rfl rfl rfl dX11_due_25 dX11_due_28 dX11_due_29 dX11_due_32 hw
theorem qX11_refuse (G : GG) (l : Launch) (o : Int) (a1 : Int) (h : HP) (P : Int → HP → Prop) (hw : wX11_refuse o a1 h P) : CnI l G yX11_refuse cX11_refuse 2 (some .int) 8 [(21, o), (0, a1)] h P := by
  refine CnI.of (lo := [(21, o), (0, a1)]) (by decide) rfl rfl rfl ?_
  intro p e s m args below meth c hc hr
  have hc : VC G p (rmD 8 0) s m args meth c RX11 cX11_refuse 2 8 := hc
  refine V.aload_n (t := 11) hc dX11_refuse_0 rfl rfl ?_
  refine V.gR hc gR_X11_20 (i' := o) rfl dX11_refuse_1 ?_
  refine V.iload_n hc dX11_refuse_4 rfl rfl ?_
  refine V.dup2 hc dX11_refuse_5 (by simp) (by simp) ?_
  obtain ⟨g1, hw⟩ := hw
  refine V.ald hc ak_46 g1 dX11_refuse_6 ?_
  refine V.iconst hc dX11_refuse_7 ?_
  refine V.iadd hc dX11_refuse_8 ?_
  obtain ⟨g3, hw⟩ := hw
  refine V.ast hc ak_46 g3 dX11_refuse_9 (fun h2 e => ?_)
  replace hw := hw h2 e
  clear e
  refine V.iconst hc dX11_refuse_10 ?_
  exact V.iret hc hr dX11_refuse_11 hw
theorem qX11_come (G : GG) (l : Launch) (o : Int) (a1 : Int) (a2 : Int) (h : HP) (P : Int → HP → Prop) (hw : wX11_come o a1 a2 h P) : CnI l G yX11_come cX11_come 3 (some .int) 11 [(21, o), (0, a1), (0, a2)] h P := by
  refine CnI.of (lo := [(21, o), (0, a1), (0, a2)]) (by decide) rfl rfl rfl ?_
  intro p e s m args below meth c hc hr
  have hc : VC G p (rmD 11 0) s m args meth c RX11 cX11_come 3 11 := hc
  refine V.aload_n (t := 11) hc dX11_come_0 rfl rfl ?_
  refine V.gR hc gR_X11_26 (i' := 1) rfl dX11_come_1 ?_
  refine V.iload_n hc dX11_come_4 rfl rfl ?_
  refine V.callVI hc (qX8_hasLeaf G l _ _ _ _ hw) mo_X8_hasLeaf ml_X11_261 (by rfl) rfl rfl (as := [(0, a1)]) rfl rfl rfl rfl rfl ⟨Nat.zero_le _, Nat.zero_le _⟩ dX11_come_5 (fun x2 h1 hw => ?_)
  obtain ⟨g3, hw⟩ := hw
  refine V.if_eq hc (tgt := 22) dX11_come_8 (by decide) g3 (fun c4 => ?_) (fun c4 => ?_)
  · replace hw := hw.1 c4
    refine V.aload_n (t := 11) hc dX11_come_22 rfl rfl ?_
    refine V.iconst hc dX11_come_23 ?_
    refine V.callVI hc (qX11_refuse G l _ _ _ _ hw) mo_X11_refuse ml_X11_264 (by rfl) rfl rfl (as := [(0, 1)]) rfl rfl rfl rfl rfl ⟨Nat.zero_le _, Nat.zero_le _⟩ dX11_come_24 (fun x6 h5 hw => ?_)
    exact V.iret hc hr dX11_come_27 hw
  · replace hw := hw.2 c4
    refine V.iload_n hc dX11_come_11 rfl rfl ?_
    refine V.iconst hc dX11_come_12 ?_
    obtain ⟨g7, hw⟩ := hw
    refine V.icmp_lt hc (tgt := 22) dX11_come_13 (by decide) g7 (by omega) (fun c8 => ?_) (fun c8 => ?_)
    · replace hw := hw.1 c8
      refine V.aload_n (t := 11) hc dX11_come_22 rfl rfl ?_
      refine V.iconst hc dX11_come_23 ?_
      refine V.callVI hc (qX11_refuse G l _ _ _ _ hw) mo_X11_refuse ml_X11_264 (by rfl) rfl rfl (as := [(0, 1)]) rfl rfl rfl rfl rfl ⟨Nat.zero_le _, Nat.zero_le _⟩ dX11_come_24 (fun x10 h9 hw => ?_)
      exact V.iret hc hr dX11_come_27 hw
    · replace hw := hw.2 c8
      refine V.iload_n hc dX11_come_16 rfl rfl ?_
      refine V.bipush hc dX11_come_17 (by decide) ?_
      obtain ⟨g11, hw⟩ := hw
      refine V.icmp_le hc (tgt := 28) dX11_come_19 (by decide) g11 (by omega) (fun c12 => ?_) (fun c12 => ?_)
      · replace hw := hw.1 c12
        refine V.aload_n (t := 11) hc dX11_come_28 rfl rfl ?_
        refine V.gR hc gR_X11_54 (i' := 3) rfl dX11_come_29 ?_
        refine V.aload_n (t := 11) hc dX11_come_32 rfl rfl ?_
        refine V.gR hc gR_X11_47 (i' := 10) rfl dX11_come_33 ?_
        refine V.callVV hc (qX5_keep G l _ _ _ _ hw) mo_X5_keep ml_X11_267 (by rfl) rfl rfl (as := [(16, 10)]) rfl rfl rfl rfl rfl ⟨Nat.zero_le _, Nat.zero_le _⟩ dX11_come_36 (fun h13 hw => ?_)
        refine V.aload_n (t := 11) hc dX11_come_39 rfl rfl ?_
        refine V.gR hc gR_X11_47 (i' := 10) rfl dX11_come_40 ?_
        refine V.iload_n hc dX11_come_43 rfl rfl ?_
        refine V.iload_n hc dX11_come_44 rfl rfl ?_
        refine V.callVV hc (qX6_accept G l _ _ _ _ _ hw) mo_X6_accept ml_X11_271 (by rfl) rfl rfl (as := [(0, a1), (0, a2)]) rfl rfl rfl rfl rfl ⟨Nat.zero_le _, Nat.zero_le _⟩ dX11_come_45 (fun h14 hw => ?_)
        refine V.aload_n (t := 11) hc dX11_come_48 rfl rfl ?_
        refine V.gR hc gR_X11_47 (i' := 10) rfl dX11_come_49 ?_
        refine V.iload_n hc dX11_come_52 rfl rfl ?_
        refine V.callVI hc (qX6_packets G l _ _ _ _ hw) mo_X6_packets ml_X11_220 (by rfl) rfl rfl (as := [(0, a1)]) rfl rfl rfl rfl rfl ⟨Nat.zero_le _, Nat.zero_le _⟩ dX11_come_53 (fun x16 h15 hw => ?_)
        exact V.iret hc hr dX11_come_56 hw
      · replace hw := hw.2 c12
        refine V.aload_n (t := 11) hc dX11_come_22 rfl rfl ?_
        refine V.iconst hc dX11_come_23 ?_
        refine V.callVI hc (qX11_refuse G l _ _ _ _ hw) mo_X11_refuse ml_X11_264 (by rfl) rfl rfl (as := [(0, 1)]) rfl rfl rfl rfl rfl ⟨Nat.zero_le _, Nat.zero_le _⟩ dX11_come_24 (fun x18 h17 hw => ?_)
        exact V.iret hc hr dX11_come_27 hw
theorem qX11_units (G : GG) (l : Launch) (o : Int) (a1 : Int) (h : HP) (P : Int → HP → Prop) (hw : wX11_units o a1 h P) : CnI l G yX11_units cX11_units 2 (some .int) 13 [(21, o), (0, a1)] h P := by
  refine CnI.of (lo := [(21, o), (0, a1)]) (by decide) rfl rfl rfl ?_
  intro p e s m args below meth c hc hr
  have hc : VC G p (rmD 13 0) s m args meth c RX11 cX11_units 2 13 := hc
  refine V.iload_n hc dX11_units_0 rfl rfl ?_
  refine V.iconst hc dX11_units_1 ?_
  obtain ⟨g1, hw⟩ := hw
  refine V.icmp_lt hc (tgt := 26) dX11_units_2 (by decide) g1 (by omega) (fun c2 => ?_) (fun c2 => ?_)
  · replace hw := hw.1 c2
    refine V.aload_n (t := 11) hc dX11_units_26 rfl rfl ?_
    refine V.iconst hc dX11_units_27 ?_
    refine V.callVI hc (qX11_refuse G l _ _ _ _ hw) mo_X11_refuse ml_X11_264 (by rfl) rfl rfl (as := [(0, 1)]) rfl rfl rfl rfl rfl ⟨Nat.zero_le _, Nat.zero_le _⟩ dX11_units_28 (fun x4 h3 hw => ?_)
    exact V.iret hc hr dX11_units_31 hw
  · replace hw := hw.2 c2
    refine V.iload_n hc dX11_units_5 rfl rfl ?_
    refine V.bipush hc dX11_units_6 (by decide) ?_
    obtain ⟨g5, hw⟩ := hw
    refine V.icmp_gt hc (tgt := 26) dX11_units_8 (by decide) g5 (by omega) (fun c6 => ?_) (fun c6 => ?_)
    · replace hw := hw.1 c6
      refine V.aload_n (t := 11) hc dX11_units_26 rfl rfl ?_
      refine V.iconst hc dX11_units_27 ?_
      refine V.callVI hc (qX11_refuse G l _ _ _ _ hw) mo_X11_refuse ml_X11_264 (by rfl) rfl rfl (as := [(0, 1)]) rfl rfl rfl rfl rfl ⟨Nat.zero_le _, Nat.zero_le _⟩ dX11_units_28 (fun x8 h7 hw => ?_)
      exact V.iret hc hr dX11_units_31 hw
    · replace hw := hw.2 c6
      refine V.aload_n (t := 11) hc dX11_units_11 rfl rfl ?_
      refine V.gR hc gR_X11_47 (i' := 10) rfl dX11_units_12 ?_
      refine V.gI hc gI_X11_156 rfl dX11_units_15 ?_
      refine V.iload_n hc dX11_units_18 rfl rfl ?_
      refine V.iadd hc dX11_units_19 ?_
      refine V.sipush hc dX11_units_20 (by decide) ?_
      obtain ⟨g9, hw⟩ := hw
      refine V.icmp_le hc (tgt := 32) dX11_units_23 (by decide) g9 (by omega) (fun c10 => ?_) (fun c10 => ?_)
      · replace hw := hw.1 c10
        refine V.aload_n (t := 11) hc dX11_units_32 rfl rfl ?_
        refine V.gR hc gR_X11_54 (i' := 3) rfl dX11_units_33 ?_
        refine V.aload_n (t := 11) hc dX11_units_36 rfl rfl ?_
        refine V.gR hc gR_X11_47 (i' := 10) rfl dX11_units_37 ?_
        refine V.callVV hc (qX5_keep G l _ _ _ _ hw) mo_X5_keep ml_X11_267 (by rfl) rfl rfl (as := [(16, 10)]) rfl rfl rfl rfl rfl ⟨Nat.zero_le _, Nat.zero_le _⟩ dX11_units_40 (fun h11 hw => ?_)
        refine V.aload_n (t := 11) hc dX11_units_43 rfl rfl ?_
        refine V.gR hc gR_X11_47 (i' := 10) rfl dX11_units_44 ?_
        refine V.iload_n hc dX11_units_47 rfl rfl ?_
        refine V.callVV hc (qX6_pass G l _ _ _ _ hw) mo_X6_pass ml_X11_275 (by rfl) rfl rfl (as := [(0, a1)]) rfl rfl rfl rfl rfl ⟨Nat.zero_le _, Nat.zero_le _⟩ dX11_units_48 (fun h12 hw => ?_)
        refine V.aload_n (t := 11) hc dX11_units_51 rfl rfl ?_
        refine V.gR hc gR_X11_47 (i' := 10) rfl dX11_units_52 ?_
        refine V.gI hc gI_X11_156 rfl dX11_units_55 ?_
        exact V.iret hc hr dX11_units_58 hw
      · replace hw := hw.2 c10
        refine V.aload_n (t := 11) hc dX11_units_26 rfl rfl ?_
        refine V.iconst hc dX11_units_27 ?_
        refine V.callVI hc (qX11_refuse G l _ _ _ _ hw) mo_X11_refuse ml_X11_264 (by rfl) rfl rfl (as := [(0, 1)]) rfl rfl rfl rfl rfl ⟨Nat.zero_le _, Nat.zero_le _⟩ dX11_units_28 (fun x14 h13 hw => ?_)
        exact V.iret hc hr dX11_units_31 hw
theorem tX11_change_108 {G : GG} {p : Program} {l : Launch} {e : Jvm.Env} {s : State} {m : MethodId} {args : Array Value} {below : List Frame} {meth : Method} {c : Code} {P : Int → HP → Prop} (hc : VC G p (rmD 11 0) s m args meth c RX11 cX11_change 8 11) (hr : meth.sig.returnType = some .int) {o : Int} {a1 : Int} {a2 : Int} {a3 : Int} {a4 : Int} {a5 : Int} {l7 : Int} {h : HP} (hw : wX11_change_108 o a1 a2 a3 a4 a5 l7 P h) : V G p l e (rmD 11 0) s m args below meth c (MQ below (QI G P) args s 0 0 (va_Aof G)) 8 108 [(21, o), (0, a1), (0, a2), (0, a3), (0, a4), (0, a5), (1, 0), (0, l7)] [] h 0 := by
  refine V.aload_n (t := 11) hc dX11_change_108 rfl rfl ?_
  refine V.gR hc gR_X11_54 (i' := 3) rfl dX11_change_109 ?_
  refine V.aload_n (t := 11) hc dX11_change_112 rfl rfl ?_
  refine V.gR hc gR_X11_47 (i' := 10) rfl dX11_change_113 ?_
  refine V.callVV hc (qX5_keep G l _ _ _ _ hw) mo_X5_keep ml_X11_267 (by rfl) rfl rfl (as := [(16, 10)]) rfl rfl rfl rfl rfl ⟨Nat.zero_le _, Nat.zero_le _⟩ dX11_change_116 (fun h23 hw => ?_)
  refine V.aload_n (t := 11) hc dX11_change_119 rfl rfl ?_
  refine V.gR hc gR_X11_47 (i' := 10) rfl dX11_change_120 ?_
  refine V.iload_n hc dX11_change_123 rfl rfl ?_
  refine V.iload_n hc dX11_change_124 rfl rfl ?_
  refine V.iload_n hc dX11_change_125 rfl rfl ?_
  refine V.iload hc dX11_change_126 rfl ?_
  refine V.iload hc dX11_change_128 rfl ?_
  refine V.callVV hc (qX6_changeCurve G l _ _ _ _ _ _ _ _ hw) mo_X6_changeCurve ml_X11_292 (by rfl) rfl rfl (as := [(0, a1), (0, a2), (0, a3), (0, a4), (0, a5)]) rfl rfl rfl rfl rfl ⟨Nat.zero_le _, Nat.zero_le _⟩ dX11_change_130 (fun h24 hw => ?_)
  refine V.iload hc dX11_change_133 rfl ?_
  obtain ⟨q27, hw⟩ := hw
  have kJ28 : ∀ t26 : Int, ((l7 = 0 → t26 = 0) ∧ (¬ l7 = 0 → t26 = 1)) → V G p l e (rmD 11 0) s m args below meth c (MQ below (QI G P) args s 0 0 (va_Aof G)) 8 143 [(1, 0), (1, 0), (1, 0), (1, 0), (1, 0), (1, 0), (1, 0), (1, 0)] [(0, t26)] h24 0 := by
    intro t26 he
    replace hw := hw t26 he
    clear he
    exact V.iret hc hr dX11_change_143 hw
  have g25 := q27
  refine V.if_eq hc (tgt := 142) dX11_change_135 (by decide) g25 (fun c29 => ?_) (fun c29 => ?_)
  · refine V.iconst hc dX11_change_142 ?_
    refine V.drop (lo' := [(1, 0), (1, 0), (1, 0), (1, 0), (1, 0), (1, 0), (1, 0), (1, 0)]) ⟨Or.inl rfl, Or.inl rfl, Or.inl rfl, Or.inl rfl, Or.inl rfl, Or.inl rfl, Or.inr rfl, Or.inl rfl, trivial⟩ ?_
    exact kJ28 _ ⟨fun _ => rfl, (fun q => absurd c29 q)⟩
  · refine V.iconst hc dX11_change_138 ?_
    refine V.goto hc (tgt := 143) dX11_change_139 (by decide) ?_
    refine V.drop (lo' := [(1, 0), (1, 0), (1, 0), (1, 0), (1, 0), (1, 0), (1, 0), (1, 0)]) ⟨Or.inl rfl, Or.inl rfl, Or.inl rfl, Or.inl rfl, Or.inl rfl, Or.inl rfl, Or.inr rfl, Or.inl rfl, trivial⟩ ?_
    exact kJ28 _ ⟨(fun q => absurd q c29), fun _ => rfl⟩
theorem tX11_change_56 {G : GG} {p : Program} {l : Launch} {e : Jvm.Env} {s : State} {m : MethodId} {args : Array Value} {below : List Frame} {meth : Method} {c : Code} {P : Int → HP → Prop} (hc : VC G p (rmD 11 0) s m args meth c RX11 cX11_change 8 11) (hr : meth.sig.returnType = some .int) {o : Int} {a1 : Int} {a2 : Int} {a3 : Int} {a4 : Int} {a5 : Int} {h : HP} (hw : wX11_change_56 o a1 a2 a3 a4 a5 P h) : V G p l e (rmD 11 0) s m args below meth c (MQ below (QI G P) args s 0 0 (va_Aof G)) 8 56 [(21, o), (0, a1), (0, a2), (0, a3), (0, a4), (0, a5), (1, 0), (1, 0)] [] h 0 := by
  refine V.iload_n hc dX11_change_56 rfl rfl ?_
  refine V.iconst hc dX11_change_57 ?_
  refine V.imul hc dX11_change_58 ?_
  refine V.iload_n hc dX11_change_59 rfl rfl ?_
  refine V.iadd hc dX11_change_60 ?_
  refine V.istore hc dX11_change_61 rfl (lo' := [(21, o), (0, a1), (0, a2), (0, a3), (0, a4), (0, a5), (0, (a1 * 3) + a2), (1, 0)]) rfl ?_
  refine V.aload_n (t := 11) hc dX11_change_63 rfl rfl ?_
  refine V.gR hc gR_X11_47 (i' := 10) rfl dX11_change_64 ?_
  refine V.gR hc gR_X11_233 (i' := 10) rfl dX11_change_67 ?_
  refine V.iload hc dX11_change_70 rfl ?_
  refine V.callVI hc (qX1_has G l _ _ _ _ hw) mo_X1_has ml_X11_285 (by rfl) rfl rfl (as := [(0, (a1 * 3) + a2)]) rfl rfl rfl rfl rfl ⟨Nat.zero_le _, Nat.zero_le _⟩ dX11_change_72 (fun x20 h19 hw => ?_)
  refine V.istore hc dX11_change_75 rfl (lo' := [(21, o), (0, a1), (0, a2), (0, a3), (0, a4), (0, a5), (0, (a1 * 3) + a2), (0, x20)]) rfl ?_
  refine V.iload hc dX11_change_77 rfl ?_
  obtain ⟨g21, hw⟩ := hw
  refine V.if_eq hc (tgt := 108) dX11_change_79 (by decide) g21 (fun c22 => ?_) (fun c22 => ?_)
  · replace hw := hw.1 c22
    refine V.drop (lo' := [(21, o), (0, a1), (0, a2), (0, a3), (0, a4), (0, a5), (1, 0), (0, x20)]) ⟨Or.inr rfl, Or.inr rfl, Or.inr rfl, Or.inr rfl, Or.inr rfl, Or.inr rfl, Or.inl rfl, Or.inr rfl, trivial⟩ ?_
    exact tX11_change_108 hc hr  hw
  · replace hw := hw.2 c22
    refine V.aload_n (t := 11) hc dX11_change_82 rfl rfl ?_
    refine V.gR hc gR_X11_47 (i' := 10) rfl dX11_change_83 ?_
    refine V.gR hc gR_X11_233 (i' := 10) rfl dX11_change_86 ?_
    refine V.iload hc dX11_change_89 rfl ?_
    refine V.iload_n hc dX11_change_91 rfl rfl ?_
    refine V.iload hc dX11_change_92 rfl ?_
    refine V.iload hc dX11_change_94 rfl ?_
    refine V.callVI hc (qX1_isSo G l _ _ _ _ _ _ _ hw) mo_X1_isSo ml_X11_288 (by rfl) rfl rfl (as := [(0, (a1 * 3) + a2), (0, a3), (0, a4), (0, a5)]) rfl rfl rfl rfl rfl ⟨Nat.zero_le _, Nat.zero_le _⟩ dX11_change_96 (fun x31 h30 hw => ?_)
    obtain ⟨g32, hw⟩ := hw
    refine V.if_eq hc (tgt := 108) dX11_change_99 (by decide) g32 (fun c33 => ?_) (fun c33 => ?_)
    · replace hw := hw.1 c33
      refine V.drop (lo' := [(21, o), (0, a1), (0, a2), (0, a3), (0, a4), (0, a5), (1, 0), (0, x20)]) ⟨Or.inr rfl, Or.inr rfl, Or.inr rfl, Or.inr rfl, Or.inr rfl, Or.inr rfl, Or.inl rfl, Or.inr rfl, trivial⟩ ?_
      exact tX11_change_108 hc hr  hw
    · replace hw := hw.2 c33
      refine V.aload_n (t := 11) hc dX11_change_102 rfl rfl ?_
      refine V.iconst hc dX11_change_103 ?_
      refine V.callVI hc (qX11_refuse G l _ _ _ _ hw) mo_X11_refuse ml_X11_264 (by rfl) rfl rfl (as := [(0, 1)]) rfl rfl rfl rfl rfl ⟨Nat.zero_le _, Nat.zero_le _⟩ dX11_change_104 (fun x35 h34 hw => ?_)
      exact V.iret hc hr dX11_change_107 hw
theorem qX11_change (G : GG) (l : Launch) (o : Int) (a1 : Int) (a2 : Int) (a3 : Int) (a4 : Int) (a5 : Int) (h : HP) (P : Int → HP → Prop) (hw : wX11_change o a1 a2 a3 a4 a5 h P) : CnI l G yX11_change cX11_change 8 (some .int) 11 [(21, o), (0, a1), (0, a2), (0, a3), (0, a4), (0, a5)] h P := by
  refine CnI.of (lo := [(21, o), (0, a1), (0, a2), (0, a3), (0, a4), (0, a5), (1, 0), (1, 0)]) (by decide) rfl rfl rfl ?_
  intro p e s m args below meth c hc hr
  have hc : VC G p (rmD 11 0) s m args meth c RX11 cX11_change 8 11 := hc
  refine V.aload_n (t := 11) hc dX11_change_0 rfl rfl ?_
  refine V.gR hc gR_X11_26 (i' := 1) rfl dX11_change_1 ?_
  refine V.iload_n hc dX11_change_4 rfl rfl ?_
  refine V.callVI hc (qX8_hasClass G l _ _ _ _ hw) mo_X8_hasClass ml_X11_278 (by rfl) rfl rfl (as := [(0, a1)]) rfl rfl rfl rfl rfl ⟨Nat.zero_le _, Nat.zero_le _⟩ dX11_change_5 (fun x2 h1 hw => ?_)
  obtain ⟨g3, hw⟩ := hw
  refine V.if_eq hc (tgt := 29) dX11_change_8 (by decide) g3 (fun c4 => ?_) (fun c4 => ?_)
  · replace hw := hw.1 c4
    refine V.aload_n (t := 11) hc dX11_change_29 rfl rfl ?_
    refine V.iconst hc dX11_change_30 ?_
    refine V.callVI hc (qX11_refuse G l _ _ _ _ hw) mo_X11_refuse ml_X11_264 (by rfl) rfl rfl (as := [(0, 1)]) rfl rfl rfl rfl rfl ⟨Nat.zero_le _, Nat.zero_le _⟩ dX11_change_31 (fun x6 h5 hw => ?_)
    exact V.iret hc hr dX11_change_34 hw
  · replace hw := hw.2 c4
    refine V.iload_n hc dX11_change_11 rfl rfl ?_
    refine V.callSI hc (qX11_isCurve G l _ _ _ hw) mo_X11_isCurve ml_X11_226 (as := [(0, a2)]) rfl rfl rfl rfl rfl ⟨Nat.zero_le _, Nat.zero_le _⟩ dX11_change_12 (fun x8 h7 hw => ?_)
    obtain ⟨g9, hw⟩ := hw
    refine V.if_eq hc (tgt := 29) dX11_change_15 (by decide) g9 (fun c10 => ?_) (fun c10 => ?_)
    · replace hw := hw.1 c10
      refine V.aload_n (t := 11) hc dX11_change_29 rfl rfl ?_
      refine V.iconst hc dX11_change_30 ?_
      refine V.callVI hc (qX11_refuse G l _ _ _ _ hw) mo_X11_refuse ml_X11_264 (by rfl) rfl rfl (as := [(0, 1)]) rfl rfl rfl rfl rfl ⟨Nat.zero_le _, Nat.zero_le _⟩ dX11_change_31 (fun x12 h11 hw => ?_)
      exact V.iret hc hr dX11_change_34 hw
    · replace hw := hw.2 c10
      refine V.iload_n hc dX11_change_18 rfl rfl ?_
      refine V.iload hc dX11_change_19 rfl ?_
      refine V.iload hc dX11_change_21 rfl ?_
      refine V.callSI hc (qX1_isWell G l _ _ _ _ _ hw) mo_X1_isWell ml_X11_281 (as := [(0, a3), (0, a4), (0, a5)]) rfl rfl rfl rfl rfl ⟨Nat.zero_le _, Nat.zero_le _⟩ dX11_change_23 (fun x14 h13 hw => ?_)
      obtain ⟨g15, hw⟩ := hw
      refine V.if_ne hc (tgt := 35) dX11_change_26 (by decide) g15 (fun c16 => ?_) (fun c16 => ?_)
      · replace hw := hw.1 c16
        refine V.iload_n hc dX11_change_35 rfl rfl ?_
        obtain ⟨g17, hw⟩ := hw
        refine V.if_ne hc (tgt := 56) dX11_change_36 (by decide) g17 (fun c18 => ?_) (fun c18 => ?_)
        · replace hw := hw.1 c18
          exact tX11_change_56 hc hr  hw
        · replace hw := hw.2 c18
          refine V.aload_n (t := 11) hc dX11_change_39 rfl rfl ?_
          refine V.gR hc gR_X11_26 (i' := 1) rfl dX11_change_40 ?_
          refine V.iload_n hc dX11_change_43 rfl rfl ?_
          refine V.callVI hc (qX8_isLeaf G l _ _ _ _ hw) mo_X8_isLeaf ml_X11_201 (by rfl) rfl rfl (as := [(0, a1)]) rfl rfl rfl rfl rfl ⟨Nat.zero_le _, Nat.zero_le _⟩ dX11_change_44 (fun x37 h36 hw => ?_)
          obtain ⟨g38, hw⟩ := hw
          refine V.if_ne hc (tgt := 56) dX11_change_47 (by decide) g38 (fun c39 => ?_) (fun c39 => ?_)
          · replace hw := hw.1 c39
            exact tX11_change_56 hc hr  hw
          · replace hw := hw.2 c39
            refine V.aload_n (t := 11) hc dX11_change_50 rfl rfl ?_
            refine V.iconst hc dX11_change_51 ?_
            refine V.callVI hc (qX11_refuse G l _ _ _ _ hw) mo_X11_refuse ml_X11_264 (by rfl) rfl rfl (as := [(0, 1)]) rfl rfl rfl rfl rfl ⟨Nat.zero_le _, Nat.zero_le _⟩ dX11_change_52 (fun x41 h40 hw => ?_)
            exact V.iret hc hr dX11_change_55 hw
      · replace hw := hw.2 c16
        refine V.aload_n (t := 11) hc dX11_change_29 rfl rfl ?_
        refine V.iconst hc dX11_change_30 ?_
        refine V.callVI hc (qX11_refuse G l _ _ _ _ hw) mo_X11_refuse ml_X11_264 (by rfl) rfl rfl (as := [(0, 1)]) rfl rfl rfl rfl rfl ⟨Nat.zero_le _, Nat.zero_le _⟩ dX11_change_31 (fun x43 h42 hw => ?_)
        exact V.iret hc hr dX11_change_34 hw
theorem qX11_empty (G : GG) (l : Launch) (o : Int) (a1 : Int) (h : HP) (P : Int → HP → Prop) (hw : wX11_empty o a1 h P) : CnI l G yX11_empty cX11_empty 2 (some .int) 11 [(21, o), (0, a1)] h P := by
  refine CnI.of (lo := [(21, o), (0, a1)]) (by decide) rfl rfl rfl ?_
  intro p e s m args below meth c hc hr
  have hc : VC G p (rmD 11 0) s m args meth c RX11 cX11_empty 2 11 := hc
  refine V.aload_n (t := 11) hc dX11_empty_0 rfl rfl ?_
  refine V.gR hc gR_X11_26 (i' := 1) rfl dX11_empty_1 ?_
  refine V.iload_n hc dX11_empty_4 rfl rfl ?_
  refine V.callVI hc (qX8_hasClass G l _ _ _ _ hw) mo_X8_hasClass ml_X11_278 (by rfl) rfl rfl (as := [(0, a1)]) rfl rfl rfl rfl rfl ⟨Nat.zero_le _, Nat.zero_le _⟩ dX11_empty_5 (fun x2 h1 hw => ?_)
  obtain ⟨g3, hw⟩ := hw
  refine V.if_eq hc (tgt := 22) dX11_empty_8 (by decide) g3 (fun c4 => ?_) (fun c4 => ?_)
  · replace hw := hw.1 c4
    refine V.aload_n (t := 11) hc dX11_empty_22 rfl rfl ?_
    refine V.iconst hc dX11_empty_23 ?_
    refine V.callVI hc (qX11_refuse G l _ _ _ _ hw) mo_X11_refuse ml_X11_264 (by rfl) rfl rfl (as := [(0, 1)]) rfl rfl rfl rfl rfl ⟨Nat.zero_le _, Nat.zero_le _⟩ dX11_empty_24 (fun x6 h5 hw => ?_)
    exact V.iret hc hr dX11_empty_27 hw
  · replace hw := hw.2 c4
    refine V.aload_n (t := 11) hc dX11_empty_11 rfl rfl ?_
    refine V.gR hc gR_X11_47 (i' := 10) rfl dX11_empty_12 ?_
    refine V.iload_n hc dX11_empty_15 rfl rfl ?_
    refine V.callVI hc (qX6_packets G l _ _ _ _ hw) mo_X6_packets ml_X11_220 (by rfl) rfl rfl (as := [(0, a1)]) rfl rfl rfl rfl rfl ⟨Nat.zero_le _, Nat.zero_le _⟩ dX11_empty_16 (fun x8 h7 hw => ?_)
    obtain ⟨g9, hw⟩ := hw
    refine V.if_ne hc (tgt := 28) dX11_empty_19 (by decide) g9 (fun c10 => ?_) (fun c10 => ?_)
    · replace hw := hw.1 c10
      refine V.aload_n (t := 11) hc dX11_empty_28 rfl rfl ?_
      refine V.gR hc gR_X11_54 (i' := 3) rfl dX11_empty_29 ?_
      refine V.aload_n (t := 11) hc dX11_empty_32 rfl rfl ?_
      refine V.gR hc gR_X11_47 (i' := 10) rfl dX11_empty_33 ?_
      refine V.callVV hc (qX5_keep G l _ _ _ _ hw) mo_X5_keep ml_X11_267 (by rfl) rfl rfl (as := [(16, 10)]) rfl rfl rfl rfl rfl ⟨Nat.zero_le _, Nat.zero_le _⟩ dX11_empty_36 (fun h11 hw => ?_)
      refine V.aload_n (t := 11) hc dX11_empty_39 rfl rfl ?_
      refine V.gR hc gR_X11_47 (i' := 10) rfl dX11_empty_40 ?_
      refine V.iload_n hc dX11_empty_43 rfl rfl ?_
      refine V.callVI hc (qX6_emptyQueue G l _ _ _ _ hw) mo_X6_emptyQueue ml_X11_296 (by rfl) rfl rfl (as := [(0, a1)]) rfl rfl rfl rfl rfl ⟨Nat.zero_le _, Nat.zero_le _⟩ dX11_empty_44 (fun x13 h12 hw => ?_)
      exact V.iret hc hr dX11_empty_47 hw
    · replace hw := hw.2 c10
      refine V.aload_n (t := 11) hc dX11_empty_22 rfl rfl ?_
      refine V.iconst hc dX11_empty_23 ?_
      refine V.callVI hc (qX11_refuse G l _ _ _ _ hw) mo_X11_refuse ml_X11_264 (by rfl) rfl rfl (as := [(0, 1)]) rfl rfl rfl rfl rfl ⟨Nat.zero_le _, Nat.zero_le _⟩ dX11_empty_24 (fun x15 h14 hw => ?_)
      exact V.iret hc hr dX11_empty_27 hw
theorem qX11_lift (G : GG) (l : Launch) (o : Int) (a1 : Int) (a2 : Int) (h : HP) (P : Int → HP → Prop) (hw : wX11_lift o a1 a2 h P) : CnI l G yX11_lift cX11_lift 4 (some .boolean) 11 [(21, o), (0, a1), (0, a2)] h P := by
  refine CnI.of (lo := [(21, o), (0, a1), (0, a2), (1, 0)]) (by decide) rfl rfl rfl ?_
  intro p e s m args below meth c hc hr
  have hc : VC G p (rmD 11 0) s m args meth c RX11 cX11_lift 4 11 := hc
  refine V.iload_n hc dX11_lift_0 rfl rfl ?_
  obtain ⟨q4, hw⟩ := hw
  have kJ23 : ∀ t3 : Int, ((a2 = 0 → t3 = 1) ∧ (¬ a2 = 0 → ((¬ a2 = 2 → t3 = 0) ∧ (a2 = 2 → t3 = 1)))) → V G p l e (rmD 11 0) s m args below meth c (MQ below (QI G P) args s 0 0 (va_Aof G)) 4 14 [(21, o), (0, a1), (0, a2), (1, 0)] [(0, t3)] h 0 := by
    intro t3 he
    replace hw := hw t3 he
    clear he
    refine V.istore_n hc dX11_lift_14 rfl rfl (lo' := [(21, o), (0, a1), (0, a2), (0, t3)]) rfl ?_
    refine V.aload_n (t := 11) hc dX11_lift_15 rfl rfl ?_
    refine V.gR hc gR_X11_26 (i' := 1) rfl dX11_lift_16 ?_
    refine V.iload_n hc dX11_lift_19 rfl rfl ?_
    refine V.callVI hc (qX8_hasClass G l _ _ _ _ hw) mo_X8_hasClass ml_X11_278 (by rfl) rfl rfl (as := [(0, a1)]) rfl rfl rfl rfl rfl ⟨Nat.zero_le _, Nat.zero_le _⟩ dX11_lift_20 (fun x6 h5 hw => ?_)
    obtain ⟨g7, hw⟩ := hw
    refine V.if_eq hc (tgt := 42) dX11_lift_23 (by decide) g7 (fun c8 => ?_) (fun c8 => ?_)
    · replace hw := hw.1 c8
      refine V.aload_n (t := 11) hc dX11_lift_42 rfl rfl ?_
      refine V.iconst hc dX11_lift_43 ?_
      refine V.callVI hc (qX11_refuse G l _ _ _ _ hw) mo_X11_refuse ml_X11_264 (by rfl) rfl rfl (as := [(0, 1)]) rfl rfl rfl rfl rfl ⟨Nat.zero_le _, Nat.zero_le _⟩ dX11_lift_44 (fun x10 h9 hw => ?_)
      refine V.pop hc dX11_lift_47 (by show (0 : Nat) ≠ 2; omega) ?_
      refine V.iconst hc dX11_lift_48 ?_
      exact V.zret hc hr dX11_lift_49 (by omega) hw
    · replace hw := hw.2 c8
      refine V.iload_n hc dX11_lift_26 rfl rfl ?_
      obtain ⟨g11, hw⟩ := hw
      refine V.if_eq hc (tgt := 42) dX11_lift_27 (by decide) g11 (fun c12 => ?_) (fun c12 => ?_)
      · replace hw := hw.1 c12
        refine V.aload_n (t := 11) hc dX11_lift_42 rfl rfl ?_
        refine V.iconst hc dX11_lift_43 ?_
        refine V.callVI hc (qX11_refuse G l _ _ _ _ hw) mo_X11_refuse ml_X11_264 (by rfl) rfl rfl (as := [(0, 1)]) rfl rfl rfl rfl rfl ⟨Nat.zero_le _, Nat.zero_le _⟩ dX11_lift_44 (fun x14 h13 hw => ?_)
        refine V.pop hc dX11_lift_47 (by show (0 : Nat) ≠ 2; omega) ?_
        refine V.iconst hc dX11_lift_48 ?_
        exact V.zret hc hr dX11_lift_49 (by omega) hw
      · replace hw := hw.2 c12
        refine V.aload_n (t := 11) hc dX11_lift_30 rfl rfl ?_
        refine V.gR hc gR_X11_47 (i' := 10) rfl dX11_lift_31 ?_
        refine V.iload_n hc dX11_lift_34 rfl rfl ?_
        refine V.iload_n hc dX11_lift_35 rfl rfl ?_
        refine V.callVI hc (qX6_hasCurve G l _ _ _ _ _ hw) mo_X6_hasCurve ml_X11_229 (by rfl) rfl rfl (as := [(0, a1), (0, a2)]) rfl rfl rfl rfl rfl ⟨Nat.zero_le _, Nat.zero_le _⟩ dX11_lift_36 (fun x16 h15 hw => ?_)
        obtain ⟨g17, hw⟩ := hw
        refine V.if_ne hc (tgt := 50) dX11_lift_39 (by decide) g17 (fun c18 => ?_) (fun c18 => ?_)
        · replace hw := hw.1 c18
          refine V.aload_n (t := 11) hc dX11_lift_50 rfl rfl ?_
          refine V.gR hc gR_X11_54 (i' := 3) rfl dX11_lift_51 ?_
          refine V.aload_n (t := 11) hc dX11_lift_54 rfl rfl ?_
          refine V.gR hc gR_X11_47 (i' := 10) rfl dX11_lift_55 ?_
          refine V.callVV hc (qX5_keep G l _ _ _ _ hw) mo_X5_keep ml_X11_267 (by rfl) rfl rfl (as := [(16, 10)]) rfl rfl rfl rfl rfl ⟨Nat.zero_le _, Nat.zero_le _⟩ dX11_lift_58 (fun h19 hw => ?_)
          refine V.aload_n (t := 11) hc dX11_lift_61 rfl rfl ?_
          refine V.gR hc gR_X11_47 (i' := 10) rfl dX11_lift_62 ?_
          refine V.gR hc gR_X11_233 (i' := 10) rfl dX11_lift_65 ?_
          refine V.iload_n hc dX11_lift_68 rfl rfl ?_
          refine V.iconst hc dX11_lift_69 ?_
          refine V.imul hc dX11_lift_70 ?_
          refine V.iload_n hc dX11_lift_71 rfl rfl ?_
          refine V.iadd hc dX11_lift_72 ?_
          refine V.callVV hc (qX1_drop G l _ _ _ _ hw) mo_X1_drop ml_X11_299 (by rfl) rfl rfl (as := [(0, (a1 * 3) + a2)]) rfl rfl rfl rfl rfl ⟨Nat.zero_le _, Nat.zero_le _⟩ dX11_lift_73 (fun h20 hw => ?_)
          refine V.iconst hc dX11_lift_76 ?_
          exact V.zret hc hr dX11_lift_77 (by omega) hw
        · replace hw := hw.2 c18
          refine V.aload_n (t := 11) hc dX11_lift_42 rfl rfl ?_
          refine V.iconst hc dX11_lift_43 ?_
          refine V.callVI hc (qX11_refuse G l _ _ _ _ hw) mo_X11_refuse ml_X11_264 (by rfl) rfl rfl (as := [(0, 1)]) rfl rfl rfl rfl rfl ⟨Nat.zero_le _, Nat.zero_le _⟩ dX11_lift_44 (fun x22 h21 hw => ?_)
          refine V.pop hc dX11_lift_47 (by show (0 : Nat) ≠ 2; omega) ?_
          refine V.iconst hc dX11_lift_48 ?_
          exact V.zret hc hr dX11_lift_49 (by omega) hw
  obtain ⟨g1, q24⟩ := q4
  refine V.if_eq hc (tgt := 9) dX11_lift_1 (by decide) g1 (fun c25 => ?_) (fun c25 => ?_)
  · refine V.iconst hc dX11_lift_9 ?_
    refine V.goto hc (tgt := 14) dX11_lift_10 (by decide) ?_
    exact kJ23 _ ⟨fun _ => rfl, (fun q => absurd c25 q)⟩
  · have q26 := q24 c25
    have g2 := q26
    refine V.iload_n hc dX11_lift_4 rfl rfl ?_
    refine V.iconst hc dX11_lift_5 ?_
    refine V.icmp_ne hc (tgt := 13) dX11_lift_6 (by decide) g2 (by omega) (fun c27 => ?_) (fun c27 => ?_)
    · refine V.iconst hc dX11_lift_13 ?_
      exact kJ23 _ ⟨(fun q => absurd q c25), fun _ => ⟨fun _ => rfl, (fun q => absurd q c27)⟩⟩
    · refine V.iconst hc dX11_lift_9 ?_
      refine V.goto hc (tgt := 14) dX11_lift_10 (by decide) ?_
      exact kJ23 _ ⟨(fun q => absurd q c25), fun _ => ⟨(fun q => absurd c27 q), fun _ => rfl⟩⟩
theorem qX11_stop (G : GG) (l : Launch) (o : Int) (a1 : Int) (h : HP) (P : Int → HP → Prop) (hw : wX11_stop o a1 h P) : CnI l G yX11_stop cX11_stop 2 (some .int) 11 [(21, o), (0, a1)] h P := by
  refine CnI.of (lo := [(21, o), (0, a1)]) (by decide) rfl rfl rfl ?_
  intro p e s m args below meth c hc hr
  have hc : VC G p (rmD 11 0) s m args meth c RX11 cX11_stop 2 11 := hc
  refine V.aload_n (t := 11) hc dX11_stop_0 rfl rfl ?_
  refine V.gR hc gR_X11_26 (i' := 1) rfl dX11_stop_1 ?_
  refine V.iload_n hc dX11_stop_4 rfl rfl ?_
  refine V.callVI hc (qX8_hasFlow G l _ _ _ _ hw) mo_X8_hasFlow ml_X11_302 (by rfl) rfl rfl (as := [(0, a1)]) rfl rfl rfl rfl rfl ⟨Nat.zero_le _, Nat.zero_le _⟩ dX11_stop_5 (fun x2 h1 hw => ?_)
  obtain ⟨g3, hw⟩ := hw
  refine V.if_ne hc (tgt := 17) dX11_stop_8 (by decide) g3 (fun c4 => ?_) (fun c4 => ?_)
  · replace hw := hw.1 c4
    refine V.aload_n (t := 11) hc dX11_stop_17 rfl rfl ?_
    refine V.gR hc gR_X11_54 (i' := 3) rfl dX11_stop_18 ?_
    refine V.aload_n (t := 11) hc dX11_stop_21 rfl rfl ?_
    refine V.gR hc gR_X11_47 (i' := 10) rfl dX11_stop_22 ?_
    refine V.callVV hc (qX5_keep G l _ _ _ _ hw) mo_X5_keep ml_X11_267 (by rfl) rfl rfl (as := [(16, 10)]) rfl rfl rfl rfl rfl ⟨Nat.zero_le _, Nat.zero_le _⟩ dX11_stop_25 (fun h5 hw => ?_)
    refine V.aload_n (t := 11) hc dX11_stop_28 rfl rfl ?_
    refine V.gR hc gR_X11_47 (i' := 10) rfl dX11_stop_29 ?_
    refine V.iload_n hc dX11_stop_32 rfl rfl ?_
    refine V.callVV hc (qX6_toggleFlow G l _ _ _ _ hw) mo_X6_toggleFlow ml_X11_305 (by rfl) rfl rfl (as := [(0, a1)]) rfl rfl rfl rfl rfl ⟨Nat.zero_le _, Nat.zero_le _⟩ dX11_stop_33 (fun h6 hw => ?_)
    refine V.aload_n (t := 11) hc dX11_stop_36 rfl rfl ?_
    refine V.gR hc gR_X11_47 (i' := 10) rfl dX11_stop_37 ?_
    refine V.gI hc gI_X11_308 rfl dX11_stop_40 ?_
    exact V.iret hc hr dX11_stop_43 hw
  · replace hw := hw.2 c4
    refine V.aload_n (t := 11) hc dX11_stop_11 rfl rfl ?_
    refine V.iconst hc dX11_stop_12 ?_
    refine V.callVI hc (qX11_refuse G l _ _ _ _ hw) mo_X11_refuse ml_X11_264 (by rfl) rfl rfl (as := [(0, 1)]) rfl rfl rfl rfl rfl ⟨Nat.zero_le _, Nat.zero_le _⟩ dX11_stop_13 (fun x8 h7 hw => ?_)
    exact V.iret hc hr dX11_stop_16 hw
theorem qX11_undo (G : GG) (l : Launch) (o : Int) (h : HP) (P : Int → HP → Prop) (hw : wX11_undo o h P) : CnI l G yX11_undo cX11_undo 1 (some .int) 11 [(21, o)] h P := by
  refine CnI.of (lo := [(21, o)]) (by decide) rfl rfl rfl ?_
  intro p e s m args below meth c hc hr
  have hc : VC G p (rmD 11 0) s m args meth c RX11 cX11_undo 1 11 := hc
  refine V.aload_n (t := 11) hc dX11_undo_0 rfl rfl ?_
  refine V.gR hc gR_X11_54 (i' := 3) rfl dX11_undo_1 ?_
  refine V.callVI hc (qX5_size G l _ _ _ hw) mo_X5_size ml_X11_186 (by rfl) rfl rfl (as := []) rfl rfl rfl rfl rfl ⟨Nat.zero_le _, Nat.zero_le _⟩ dX11_undo_4 (fun x2 h1 hw => ?_)
  obtain ⟨g3, hw⟩ := hw
  refine V.if_ne hc (tgt := 12) dX11_undo_7 (by decide) g3 (fun c4 => ?_) (fun c4 => ?_)
  · replace hw := hw.1 c4
    refine V.aload_n (t := 11) hc dX11_undo_12 rfl rfl ?_
    refine V.gR hc gR_X11_54 (i' := 3) rfl dX11_undo_13 ?_
    refine V.aload_n (t := 11) hc dX11_undo_16 rfl rfl ?_
    refine V.gR hc gR_X11_47 (i' := 10) rfl dX11_undo_17 ?_
    refine V.callVV hc (qX5_takeBack G l _ _ _ _ hw) mo_X5_takeBack ml_X11_311 (by rfl) rfl rfl (as := [(16, 10)]) rfl rfl rfl rfl rfl ⟨Nat.zero_le _, Nat.zero_le _⟩ dX11_undo_20 (fun h5 hw => ?_)
    refine V.aload_n (t := 11) hc dX11_undo_23 rfl rfl ?_
    refine V.gR hc gR_X11_54 (i' := 3) rfl dX11_undo_24 ?_
    refine V.callVI hc (qX5_size G l _ _ _ hw) mo_X5_size ml_X11_186 (by rfl) rfl rfl (as := []) rfl rfl rfl rfl rfl ⟨Nat.zero_le _, Nat.zero_le _⟩ dX11_undo_27 (fun x7 h6 hw => ?_)
    exact V.iret hc hr dX11_undo_30 hw
  · replace hw := hw.2 c4
    refine V.iconst hc dX11_undo_10 ?_
    exact V.iret hc hr dX11_undo_11 hw
theorem qX11_together (G : GG) (l : Launch) (hlf : l.stackTraces = false) (o : Int) (a1 : Int) (h : HP) (P : Int → HP → Prop) (X : Nat → HP → Prop) (hw : wX11_together o a1 h P X) : CxI l G yX11_together cX11_together 2 (some .int) 12 1 [(21, o), (0, a1)] h P X := by
  refine CxI.of (lo := [(21, o), (0, a1)]) (by decide) rfl rfl rfl ?_
  intro p e s m args below meth c hc hr hxt
  have hc : VC G p (rmD 12 1) s m args meth c RX11 cX11_together 2 12 := hc
  refine V.iload_n hc dX11_together_0 rfl rfl ?_
  obtain ⟨g1, hw⟩ := hw
  refine V.if_lt hc (tgt := 9) dX11_together_1 (by decide) g1 (fun c2 => ?_) (fun c2 => ?_)
  · replace hw := hw.1 c2
    exact V.throwN hc hlf hxt rfl rfl rfl dX11_together_9 dX11_together_12 dX11_together_13 dX11_together_16 hw
  · replace hw := hw.2 c2
    refine V.iload_n hc dX11_together_4 rfl rfl ?_
    refine V.iconst hc dX11_together_5 ?_
    obtain ⟨g3, hw⟩ := hw
    refine V.icmp_le hc (tgt := 17) dX11_together_6 (by decide) g3 (by omega) (fun c4 => ?_) (fun c4 => ?_)
    · replace hw := hw.1 c4
      refine V.aload_n (t := 11) hc dX11_together_17 rfl rfl ?_
      refine V.gR hc gR_X11_89 (i' := 0) rfl dX11_together_18 ?_
      refine V.iload_n hc dX11_together_21 rfl rfl ?_
      refine V.callVI hc (qX3_answer G l _ _ _ _ hw) mo_X3_answer ml_X11_314 (by rfl) rfl rfl (as := [(0, a1)]) rfl rfl rfl rfl rfl ⟨by show _ ≤ 1; omega, by show _ ≤ 6 * 1; omega⟩ dX11_together_22 (fun x6 h5 hw => ?_)
      exact V.xiret hc hr dX11_together_25 rfl hw
    · replace hw := hw.2 c4
      exact V.throwN hc hlf hxt rfl rfl rfl dX11_together_9 dX11_together_12 dX11_together_13 dX11_together_16 hw
