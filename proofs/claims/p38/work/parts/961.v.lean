theorem qX8_untilTold (G : GG) (l : Launch) (o : Int) (a1 : Int) (a2 : Int) (h : HP) (P : Int → HP → Prop) (hw : wX8_untilTold o a1 a2 h P) : CnI l G yX8_untilTold cX8_untilTold 4 (some .int) 1 [(18, o), (0, a1), (0, a2)] h P := by
  refine CnI.of (lo := [(18, o), (0, a1), (0, a2), (1, 0)]) (by decide) rfl rfl rfl ?_
  intro p e s m args below meth c hc hr
  have hc : VC G p (rmD 1 0) s m args meth c RX8 cX8_untilTold 4 1 := hc
  refine V.aload_n (t := 8) hc dX8_untilTold_0 rfl rfl ?_
  refine V.gR hc gR_X8_31 (i' := o) rfl dX8_untilTold_1 ?_
  refine V.iload_n hc dX8_untilTold_4 rfl rfl ?_
  obtain ⟨g1, hw⟩ := hw
  refine V.ald hc ak_41 g1 dX8_untilTold_5 ?_
  refine V.iconst hc dX8_untilTold_6 ?_
  obtain ⟨g2, hw⟩ := hw
  refine V.icmp_lt hc (tgt := 25) dX8_untilTold_7 (by decide) g2 (by omega) (fun c3 => ?_) (fun c3 => ?_)
  · replace hw := hw.1 c3
    refine V.ldc hc (x := 1000000) kl_X8_80 dX8_untilTold_25 ?_
    exact V.iret hc hr dX8_untilTold_27 hw
  · replace hw := hw.2 c3
    refine V.aload_n (t := 8) hc dX8_untilTold_10 rfl rfl ?_
    refine V.gR hc gR_X8_34 (i' := o) rfl dX8_untilTold_11 ?_
    refine V.iload_n hc dX8_untilTold_14 rfl rfl ?_
    obtain ⟨g4, hw⟩ := hw
    refine V.ald hc ak_42 g4 dX8_untilTold_15 ?_
    refine V.aload_n (t := 8) hc dX8_untilTold_16 rfl rfl ?_
    refine V.gR hc gR_X8_31 (i' := o) rfl dX8_untilTold_17 ?_
    refine V.iload_n hc dX8_untilTold_20 rfl rfl ?_
    obtain ⟨g5, hw⟩ := hw
    refine V.ald hc ak_41 g5 dX8_untilTold_21 ?_
    obtain ⟨g6, hw⟩ := hw
    obtain ⟨g7, hw⟩ := hw
    refine V.icmp_lt hc (tgt := 28) dX8_untilTold_22 (by decide) g6 g7 (fun c8 => ?_) (fun c8 => ?_)
    · replace hw := hw.1 c8
      refine V.iload_n hc dX8_untilTold_28 rfl rfl ?_
      refine V.aload_n (t := 8) hc dX8_untilTold_29 rfl rfl ?_
      refine V.gR hc gR_X8_31 (i' := o) rfl dX8_untilTold_30 ?_
      refine V.iload_n hc dX8_untilTold_33 rfl rfl ?_
      obtain ⟨g9, hw⟩ := hw
      refine V.ald hc ak_41 g9 dX8_untilTold_34 ?_
      obtain ⟨g10, hw⟩ := hw
      obtain ⟨g11, hw⟩ := hw
      refine V.irem hc g10 g11 dX8_untilTold_35 ?_
      refine V.istore_n hc dX8_untilTold_36 rfl rfl (lo' := [(18, o), (0, a1), (0, a2), (0, a2 % (h 41 o a1))]) rfl ?_
      refine V.iload_n hc dX8_untilTold_37 rfl rfl ?_
      refine V.aload_n (t := 8) hc dX8_untilTold_38 rfl rfl ?_
      refine V.gR hc gR_X8_34 (i' := o) rfl dX8_untilTold_39 ?_
      refine V.iload_n hc dX8_untilTold_42 rfl rfl ?_
      obtain ⟨g12, hw⟩ := hw
      refine V.ald hc ak_42 g12 dX8_untilTold_43 ?_
      obtain ⟨q19, hw⟩ := hw
      have kJ20 : ∀ t18 : Int, ((h 42 o a1 < a2 % (h 41 o a1) → t18 = ((h 42 o a1) - (a2 % (h 41 o a1))) + (h 41 o a1)) ∧ (¬ h 42 o a1 < a2 % (h 41 o a1) → t18 = (h 42 o a1) - (a2 % (h 41 o a1)))) → V G p l e (rmD 1 0) s m args below meth c (MQ below (QI G P) args s 0 0 (va_Aof G)) 4 73 [(1, 0), (1, 0), (1, 0), (1, 0)] [(0, t18)] h 0 := by
        intro t18 he
        replace hw := hw t18 he
        clear he
        exact V.iret hc hr dX8_untilTold_73 hw
      obtain ⟨g13, g14, q21, q22⟩ := q19
      refine V.icmp_gt hc (tgt := 58) dX8_untilTold_44 (by decide) g13 g14 (fun c23 => ?_) (fun c23 => ?_)
      · have q24 := q21 c23
        obtain ⟨g15, g16⟩ := q24
        refine V.aload_n (t := 8) hc dX8_untilTold_58 rfl rfl ?_
        refine V.gR hc gR_X8_34 (i' := o) rfl dX8_untilTold_59 ?_
        refine V.iload_n hc dX8_untilTold_62 rfl rfl ?_
        refine V.ald hc ak_42 g15 dX8_untilTold_63 ?_
        refine V.iload_n hc dX8_untilTold_64 rfl rfl ?_
        refine V.isub hc dX8_untilTold_65 ?_
        refine V.aload_n (t := 8) hc dX8_untilTold_66 rfl rfl ?_
        refine V.gR hc gR_X8_31 (i' := o) rfl dX8_untilTold_67 ?_
        refine V.iload_n hc dX8_untilTold_70 rfl rfl ?_
        refine V.ald hc ak_41 g16 dX8_untilTold_71 ?_
        refine V.iadd hc dX8_untilTold_72 ?_
        refine V.drop (lo' := [(1, 0), (1, 0), (1, 0), (1, 0)]) ⟨Or.inl rfl, Or.inl rfl, Or.inl rfl, Or.inl rfl, trivial⟩ ?_
        exact kJ20 _ ⟨fun _ => rfl, (fun q => absurd c23 q)⟩
      · have q25 := q22 c23
        have g17 := q25
        refine V.aload_n (t := 8) hc dX8_untilTold_47 rfl rfl ?_
        refine V.gR hc gR_X8_34 (i' := o) rfl dX8_untilTold_48 ?_
        refine V.iload_n hc dX8_untilTold_51 rfl rfl ?_
        refine V.ald hc ak_42 g17 dX8_untilTold_52 ?_
        refine V.iload_n hc dX8_untilTold_53 rfl rfl ?_
        refine V.isub hc dX8_untilTold_54 ?_
        refine V.goto hc (tgt := 73) dX8_untilTold_55 (by decide) ?_
        refine V.drop (lo' := [(1, 0), (1, 0), (1, 0), (1, 0)]) ⟨Or.inl rfl, Or.inl rfl, Or.inl rfl, Or.inl rfl, trivial⟩ ?_
        exact kJ20 _ ⟨(fun q => absurd q c23), fun _ => rfl⟩
    · replace hw := hw.2 c8
      refine V.ldc hc (x := 1000000) kl_X8_80 dX8_untilTold_25 ?_
      exact V.iret hc hr dX8_untilTold_27 hw
theorem tX6_quietUnits_97 {G : GG} {p : Program} {l : Launch} {e : Jvm.Env} {s : State} {m : MethodId} {args : Array Value} {below : List Frame} {meth : Method} {c : Code} {P : Int → HP → Prop} (hc : VC G p (rmD 2 0) s m args meth c RX6 cX6_quietUnits 5 2) (hr : meth.sig.returnType = some .int) {o : Int} {a1 : Int} {l2 : Int} {l3 : Int} {h : HP} {K48 : Int → Int → HP → Prop} (hK48 : ∀ (x2 : Int) (x3 : Int) (h : HP), K48 x2 x3 h → V G p l e (rmD 2 0) s m args below meth c (MQ below (QI G P) args s 0 0 (va_Aof G)) 5 48 [(16, o), (1, 0), (0, x2), (0, x3), (1, 0)] [] h 0) (hw : wX6_quietUnits_97 o a1 l2 l3 K48 h) : V G p l e (rmD 2 0) s m args below meth c (MQ below (QI G P) args s 0 0 (va_Aof G)) 5 97 [(16, o), (1, 0), (0, l2), (0, l3), (1, 0)] [] h 0 := by
  refine V.iinc hc dX6_quietUnits_97 rfl rfl (lo' := [(16, o), (1, 0), (0, l2), (0, l3 + 1), (1, 0)]) rfl ?_
  refine V.goto hc (tgt := 48) dX6_quietUnits_100 (by decide) ?_
  exact hK48 _ _ _ hw
theorem tX6_quietUnits_48 {G : GG} {p : Program} {l : Launch} {e : Jvm.Env} {s : State} {m : MethodId} {args : Array Value} {below : List Frame} {meth : Method} {c : Code} {P : Int → HP → Prop} (hc : VC G p (rmD 2 0) s m args meth c RX6 cX6_quietUnits 5 2) (hr : meth.sig.returnType = some .int) {o : Int} {a1 : Int} {K103 : Int → HP → Prop} (hK103 : ∀ (x2 : Int) (h : HP), K103 x2 h → V G p l e (rmD 2 0) s m args below meth c (MQ below (QI G P) args s 0 0 (va_Aof G)) 5 103 [(1, 0), (1, 0), (0, x2), (1, 0), (1, 0)] [] h 0) : ∀ (f : Nat) (l2 : Int) (l3 : Int) (h : HP), wX6_quietUnits_48 o a1 K103 f l2 l3 h → V G p l e (rmD 2 0) s m args below meth c (MQ below (QI G P) args s 0 0 (va_Aof G)) 5 48 [(16, o), (1, 0), (0, l2), (0, l3), (1, 0)] [] h 0 := by
  intro f
  induction f with
  | zero =>
    intro l2 l3 h hw
    exact hw.elim
  | succ f ih =>
    intro l2 l3 h hw
    refine V.iload_n hc dX6_quietUnits_48 rfl rfl ?_
    refine V.aload_n (t := 6) hc dX6_quietUnits_49 rfl rfl ?_
    refine V.gR hc gR_X6_68 (i' := 1) rfl dX6_quietUnits_50 ?_
    refine V.gI hc gI_X6_99 rfl dX6_quietUnits_53 ?_
    obtain ⟨g8, hw⟩ := hw
    obtain ⟨g9, hw⟩ := hw
    refine V.icmp_ge hc (tgt := 103) dX6_quietUnits_56 (by decide) g8 g9 (fun c10 => ?_) (fun c10 => ?_)
    · replace hw := hw.1 c10
      refine V.drop (lo' := [(1, 0), (1, 0), (0, l2), (1, 0), (1, 0)]) ⟨Or.inl rfl, Or.inr rfl, Or.inr rfl, Or.inl rfl, Or.inr rfl, trivial⟩ ?_
      exact hK103 _ _ hw
    · replace hw := hw.2 c10
      refine V.aload_n (t := 6) hc dX6_quietUnits_59 rfl rfl ?_
      refine V.gI hc gI_X6_27 rfl dX6_quietUnits_60 ?_
      refine V.iload_n hc dX6_quietUnits_63 rfl rfl ?_
      refine V.ishr hc dX6_quietUnits_64 ?_
      refine V.iconst hc dX6_quietUnits_65 ?_
      refine V.iand hc dX6_quietUnits_66 ?_
      obtain ⟨g11, hw⟩ := hw
      refine V.if_ne hc (tgt := 97) dX6_quietUnits_67 (by decide) g11 (fun c12 => ?_) (fun c12 => ?_)
      · replace hw := hw.1 c12
        exact tX6_quietUnits_97 hc hr (fun y2 y3 hy hw => by exact ih _ _ _ hw) hw
      · replace hw := hw.2 c12
        refine V.aload_n (t := 6) hc dX6_quietUnits_70 rfl rfl ?_
        refine V.gR hc gR_X6_68 (i' := 1) rfl dX6_quietUnits_71 ?_
        refine V.iload_n hc dX6_quietUnits_74 rfl rfl ?_
        refine V.aload_n (t := 6) hc dX6_quietUnits_75 rfl rfl ?_
        refine V.gI hc gI_X6_9 rfl dX6_quietUnits_76 ?_
        refine V.callVI hc (qX8_untilTold G l _ _ _ _ _ hw) mo_X8_untilTold ml_X6_155 (by rfl) rfl rfl (as := [(0, l3), (0, h 6 o 1)]) rfl rfl rfl rfl rfl ⟨Nat.zero_le _, Nat.zero_le _⟩ dX6_quietUnits_79 (fun x14 h13 hw => ?_)
        refine V.istore hc dX6_quietUnits_82 rfl (lo' := [(16, o), (1, 0), (0, l2), (0, l3), (0, x14)]) rfl ?_
        refine V.iload hc dX6_quietUnits_84 rfl ?_
        refine V.iload_n hc dX6_quietUnits_86 rfl rfl ?_
        obtain ⟨q18, hw⟩ := hw
        have kJ19 : ∀ t17 : Int, ((l2 ≤ x14 → t17 = l2) ∧ (¬ l2 ≤ x14 → t17 = x14)) → V G p l e (rmD 2 0) s m args below meth c (MQ below (QI G P) args s 0 0 (va_Aof G)) 5 96 [(16, o), (1, 0), (1, 0), (0, l3), (1, 0)] [(0, t17)] h13 0 := by
          intro t17 he
          replace hw := hw t17 he
          clear he
          refine V.istore_n hc dX6_quietUnits_96 rfl rfl (lo' := [(16, o), (1, 0), (0, t17), (0, l3), (1, 0)]) rfl ?_
          exact tX6_quietUnits_97 hc hr (fun y2 y3 hy hw => by exact ih _ _ _ hw) hw
        obtain ⟨g15, g16⟩ := q18
        refine V.icmp_ge hc (tgt := 95) dX6_quietUnits_87 (by decide) g15 g16 (fun c20 => ?_) (fun c20 => ?_)
        · refine V.iload_n hc dX6_quietUnits_95 rfl rfl ?_
          refine V.drop (lo' := [(16, o), (1, 0), (1, 0), (0, l3), (1, 0)]) ⟨Or.inr rfl, Or.inr rfl, Or.inl rfl, Or.inr rfl, Or.inl rfl, trivial⟩ ?_
          exact kJ19 _ ⟨fun _ => rfl, (fun q => absurd c20 q)⟩
        · refine V.iload hc dX6_quietUnits_90 rfl ?_
          refine V.goto hc (tgt := 96) dX6_quietUnits_92 (by decide) ?_
          refine V.drop (lo' := [(16, o), (1, 0), (1, 0), (0, l3), (1, 0)]) ⟨Or.inr rfl, Or.inr rfl, Or.inl rfl, Or.inr rfl, Or.inl rfl, trivial⟩ ?_
          exact kJ19 _ ⟨(fun q => absurd q c20), fun _ => rfl⟩
theorem tX6_quietUnits_19 {G : GG} {p : Program} {l : Launch} {e : Jvm.Env} {s : State} {m : MethodId} {args : Array Value} {below : List Frame} {meth : Method} {c : Code} {P : Int → HP → Prop} (hc : VC G p (rmD 2 0) s m args meth c RX6 cX6_quietUnits 5 2) (hr : meth.sig.returnType = some .int) {o : Int} {a1 : Int} {h : HP} (hw : wX6_quietUnits_19 o a1 P h) : V G p l e (rmD 2 0) s m args below meth c (MQ below (QI G P) args s 0 0 (va_Aof G)) 5 19 [(16, o), (0, a1), (1, 0), (1, 0), (1, 0)] [] h 0 := by
  refine V.aload_n (t := 6) hc dX6_quietUnits_19 rfl rfl ?_
  refine V.gR hc gR_X6_46 (i' := o) rfl dX6_quietUnits_20 ?_
  refine V.bipush hc dX6_quietUnits_23 (by decide) ?_
  refine V.ald hc ak_29 (by omega) dX6_quietUnits_25 ?_
  obtain ⟨q7, hw⟩ := hw
  have kJ24 : ∀ t6 : Int, ((h 29 o 12 ≤ 0 → t6 = a1) ∧ (¬ h 29 o 12 ≤ 0 → ((a1 ≤ h 6 o 2 → t6 = a1) ∧ (¬ a1 ≤ h 6 o 2 → t6 = h 6 o 2)))) → V G p l e (rmD 2 0) s m args below meth c (MQ below (QI G P) args s 0 0 (va_Aof G)) 5 45 [(16, o), (1, 0), (1, 0), (1, 0), (1, 0)] [(0, t6)] h 0 := by
    intro t6 he
    replace hw := hw t6 he
    clear he
    refine V.istore_n hc dX6_quietUnits_45 rfl rfl (lo' := [(16, o), (1, 0), (0, t6), (1, 0), (1, 0)]) rfl ?_
    refine V.iconst hc dX6_quietUnits_46 ?_
    refine V.istore_n hc dX6_quietUnits_47 rfl rfl (lo' := [(16, o), (1, 0), (0, t6), (0, 0), (1, 0)]) rfl ?_
    obtain ⟨f21, hw⟩ := hw
    refine tX6_quietUnits_48 hc hr ?_ f21 _ _ _ hw
    · intro l22 h23 hw
      refine V.iload_n hc dX6_quietUnits_103 rfl rfl ?_
      exact V.iret hc hr dX6_quietUnits_104 hw
  obtain ⟨g3, q25⟩ := q7
  refine V.if_le hc (tgt := 44) dX6_quietUnits_26 (by decide) g3 (fun c26 => ?_) (fun c26 => ?_)
  · refine V.iload_n hc dX6_quietUnits_44 rfl rfl ?_
    refine V.drop (lo' := [(16, o), (1, 0), (1, 0), (1, 0), (1, 0)]) ⟨Or.inr rfl, Or.inl rfl, Or.inr rfl, Or.inr rfl, Or.inr rfl, trivial⟩ ?_
    exact kJ24 _ ⟨fun _ => rfl, (fun q => absurd c26 q)⟩
  · have q27 := q25 c26
    obtain ⟨g4, g5⟩ := q27
    refine V.aload_n (t := 6) hc dX6_quietUnits_29 rfl rfl ?_
    refine V.gI hc gI_X6_15 rfl dX6_quietUnits_30 ?_
    refine V.iload_n hc dX6_quietUnits_33 rfl rfl ?_
    refine V.icmp_ge hc (tgt := 44) dX6_quietUnits_34 (by decide) g4 g5 (fun c28 => ?_) (fun c28 => ?_)
    · refine V.iload_n hc dX6_quietUnits_44 rfl rfl ?_
      refine V.drop (lo' := [(16, o), (1, 0), (1, 0), (1, 0), (1, 0)]) ⟨Or.inr rfl, Or.inl rfl, Or.inr rfl, Or.inr rfl, Or.inr rfl, trivial⟩ ?_
      exact kJ24 _ ⟨(fun q => absurd q c26), fun _ => ⟨fun _ => rfl, (fun q => absurd c28 q)⟩⟩
    · refine V.aload_n (t := 6) hc dX6_quietUnits_37 rfl rfl ?_
      refine V.gI hc gI_X6_15 rfl dX6_quietUnits_38 ?_
      refine V.goto hc (tgt := 45) dX6_quietUnits_41 (by decide) ?_
      refine V.drop (lo' := [(16, o), (1, 0), (1, 0), (1, 0), (1, 0)]) ⟨Or.inr rfl, Or.inl rfl, Or.inr rfl, Or.inr rfl, Or.inr rfl, trivial⟩ ?_
      exact kJ24 _ ⟨(fun q => absurd q c26), fun _ => ⟨(fun q => absurd q c28), fun _ => rfl⟩⟩
theorem qX6_quietUnits (G : GG) (l : Launch) (o : Int) (a1 : Int) (h : HP) (P : Int → HP → Prop) (hw : wX6_quietUnits o a1 h P) : CnI l G yX6_quietUnits cX6_quietUnits 5 (some .int) 2 [(16, o), (0, a1)] h P := by
  refine CnI.of (lo := [(16, o), (0, a1), (1, 0), (1, 0), (1, 0)]) (by decide) rfl rfl rfl ?_
  intro p e s m args below meth c hc hr
  have hc : VC G p (rmD 2 0) s m args meth c RX6 cX6_quietUnits 5 2 := hc
  refine V.aload_n (t := 6) hc dX6_quietUnits_0 rfl rfl ?_
  refine V.gR hc gR_X6_46 (i' := o) rfl dX6_quietUnits_1 ?_
  refine V.bipush hc dX6_quietUnits_4 (by decide) ?_
  refine V.ald hc ak_29 (by omega) dX6_quietUnits_6 ?_
  obtain ⟨g1, hw⟩ := hw
  refine V.if_le hc (tgt := 19) dX6_quietUnits_7 (by decide) g1 (fun c2 => ?_) (fun c2 => ?_)
  · replace hw := hw.1 c2
    exact tX6_quietUnits_19 hc hr  hw
  · replace hw := hw.2 c2
    refine V.aload_n (t := 6) hc dX6_quietUnits_10 rfl rfl ?_
    refine V.gI hc gI_X6_15 rfl dX6_quietUnits_11 ?_
    obtain ⟨g29, hw⟩ := hw
    refine V.if_ne hc (tgt := 19) dX6_quietUnits_14 (by decide) g29 (fun c30 => ?_) (fun c30 => ?_)
    · replace hw := hw.1 c30
      exact tX6_quietUnits_19 hc hr  hw
    · replace hw := hw.2 c30
      refine V.iconst hc dX6_quietUnits_17 ?_
      exact V.iret hc hr dX6_quietUnits_18 hw
theorem qX1_has (G : GG) (l : Launch) (o : Int) (a1 : Int) (h : HP) (P : Int → HP → Prop) (hw : wX1_has o a1 h P) : CnI l G yX1_has cX1_has 2 (some .boolean) 1 [(11, o), (0, a1)] h P := by
  refine CnI.of (lo := [(11, o), (0, a1)]) (by decide) rfl rfl rfl ?_
  intro p e s m args below meth c hc hr
  have hc : VC G p (rmD 1 0) s m args meth c RX1 cX1_has 2 1 := hc
  refine V.aload_n (t := 1) hc dX1_has_0 rfl rfl ?_
  refine V.gR hc gR_X1_18 (i' := o) rfl dX1_has_1 ?_
  refine V.iload_n hc dX1_has_4 rfl rfl ?_
  obtain ⟨g1, hw⟩ := hw
  refine V.ald hc ak_15 g1 dX1_has_5 ?_
  obtain ⟨q4, hw⟩ := hw
  have kJ6 : ∀ t3 : Int, ((h 15 o a1 ≤ 0 → t3 = 0) ∧ (¬ h 15 o a1 ≤ 0 → t3 = 1)) → V G p l e (rmD 1 0) s m args below meth c (MQ below (QI G P) args s 0 0 (va_Aof G)) 2 14 [(1, 0), (1, 0)] [(0, t3)] h 0 := by
    intro t3 he
    replace hw := hw t3 he
    clear he
    obtain ⟨g5, hw⟩ := hw
    exact V.zret hc hr dX1_has_14 g5 hw
  have g2 := q4
  refine V.if_le hc (tgt := 13) dX1_has_6 (by decide) g2 (fun c7 => ?_) (fun c7 => ?_)
  · refine V.iconst hc dX1_has_13 ?_
    refine V.drop (lo' := [(1, 0), (1, 0)]) ⟨Or.inl rfl, Or.inl rfl, trivial⟩ ?_
    exact kJ6 _ ⟨fun _ => rfl, (fun q => absurd c7 q)⟩
  · refine V.iconst hc dX1_has_9 ?_
    refine V.goto hc (tgt := 14) dX1_has_10 (by decide) ?_
    refine V.drop (lo' := [(1, 0), (1, 0)]) ⟨Or.inl rfl, Or.inl rfl, trivial⟩ ?_
    exact kJ6 _ ⟨(fun q => absurd q c7), fun _ => rfl⟩
theorem tX1_reached_31 {G : GG} {p : Program} {l : Launch} {e : Jvm.Env} {s : State} {m : MethodId} {args : Array Value} {below : List Frame} {meth : Method} {c : Code} {P : Int → HP → Prop} (hc : VC G p (rmD 1 0) s m args meth c RX1 cX1_reached 11 1) (hr : meth.sig.returnType = some .int) {o : Int} {a1 : Int} {a2 : Int} {a3 : Int} {l4 : Int} {l5 : Int} {l7 : Int} {h : HP} {K152 : Int → Prop} (hK152 : ∀ (x6 : Int), K152 x6 → V G p l e (rmD 1 0) s m args below meth c (MQ below (QI G P) args s 0 0 (va_Aof G)) 11 152 [(1, 0), (1, 0), (1, 0), (1, 0), (1, 0), (1, 0), (0, x6), (1, 0), (1, 0), (1, 0), (1, 0)] [] h 0) : ∀ (f : Nat) (l6 : Int) (l8 : Int), wX1_reached_31 o a1 a2 a3 l4 l5 l7 h K152 f l6 l8 → V G p l e (rmD 1 0) s m args below meth c (MQ below (QI G P) args s 0 0 (va_Aof G)) 11 31 [(11, o), (0, a1), (0, a2), (0, a3), (0, l4), (0, l5), (0, l6), (0, l7), (0, l8), (1, 0), (1, 0)] [] h 0 := by
  intro f
  induction f with
  | zero =>
    intro l6 l8 hw
    exact hw.elim
  | succ f ih =>
    intro l6 l8 hw
    refine V.iload hc dX1_reached_31 rfl ?_
    refine V.iload hc dX1_reached_33 rfl ?_
    refine V.aload_n (t := 1) hc dX1_reached_35 rfl rfl ?_
    refine V.gR hc gR_X1_24 (i' := o) rfl dX1_reached_36 ?_
    refine V.iload_n hc dX1_reached_39 rfl rfl ?_
    obtain ⟨g3, hw⟩ := hw
    refine V.ald hc ak_17 g3 dX1_reached_40 ?_
    refine V.iadd hc dX1_reached_41 ?_
    obtain ⟨g4, hw⟩ := hw
    obtain ⟨g5, hw⟩ := hw
    refine V.icmp_ge hc (tgt := 152) dX1_reached_42 (by decide) g4 g5 (fun c6 => ?_) (fun c6 => ?_)
    · replace hw := hw.1 c6
      refine V.drop (lo' := [(1, 0), (1, 0), (1, 0), (1, 0), (1, 0), (1, 0), (0, l6), (1, 0), (1, 0), (1, 0), (1, 0)]) ⟨Or.inl rfl, Or.inl rfl, Or.inl rfl, Or.inl rfl, Or.inl rfl, Or.inl rfl, Or.inr rfl, Or.inl rfl, Or.inl rfl, Or.inr rfl, Or.inr rfl, trivial⟩ ?_
      exact hK152 _ hw
    · replace hw := hw.2 c6
      refine V.bipush hc dX1_reached_45 (by decide) ?_
      refine V.iload_n hc dX1_reached_47 rfl rfl ?_
      refine V.aload_n (t := 1) hc dX1_reached_48 rfl rfl ?_
      refine V.gR hc gR_X1_30 (i' := o) rfl dX1_reached_49 ?_
      refine V.iload hc dX1_reached_52 rfl ?_
      obtain ⟨g7, hw⟩ := hw
      refine V.ald hc ak_19 g7 dX1_reached_54 ?_
      refine V.isub hc dX1_reached_55 ?_
      refine V.imul hc dX1_reached_56 ?_
      refine V.istore hc dX1_reached_57 rfl (lo' := [(11, o), (0, a1), (0, a2), (0, a3), (0, l4), (0, l5), (0, l6), (0, l7), (0, l8), (0, 100 * (a2 - (h 19 o l8))), (1, 0)]) rfl ?_
      refine V.aload_n (t := 1) hc dX1_reached_59 rfl rfl ?_
      refine V.gR hc gR_X1_27 (i' := o) rfl dX1_reached_60 ?_
      refine V.iload hc dX1_reached_63 rfl ?_
      obtain ⟨g8, hw⟩ := hw
      refine V.ald hc ak_18 g8 dX1_reached_65 ?_
      refine V.istore hc dX1_reached_66 rfl (lo' := [(11, o), (0, a1), (0, a2), (0, a3), (0, l4), (0, l5), (0, l6), (0, l7), (0, l8), (0, 100 * (a2 - (h 19 o l8))), (0, h 18 o l8)]) rfl ?_
      refine V.iload hc dX1_reached_68 rfl ?_
      refine V.iload hc dX1_reached_70 rfl ?_
      obtain ⟨q24, hw⟩ := hw
      have kJ31 : ∀ t23 : Int, ((100 * (a2 - (h 19 o l8)) ≤ l5 → ((100 * (a2 - (h 19 o l8)) ≤ 0 → t23 = h 18 o l8) ∧ (¬ 100 * (a2 - (h 19 o l8)) ≤ 0 → ((a3 ≤ 0 → t23 = h 18 o l8) ∧ (¬ a3 ≤ 0 → t23 = (h 18 o l8) + ((((100 * (a2 - (h 19 o l8))) + a3) - 1) / a3)))))) ∧ (¬ 100 * (a2 - (h 19 o l8)) ≤ l5 → ((l4 ≤ 0 → ((100 * (a2 - (h 19 o l8)) ≤ 0 → t23 = h 18 o l8) ∧ (¬ 100 * (a2 - (h 19 o l8)) ≤ 0 → ((a3 ≤ 0 → t23 = h 18 o l8) ∧ (¬ a3 ≤ 0 → t23 = (h 18 o l8) + ((((100 * (a2 - (h 19 o l8))) + a3) - 1) / a3)))))) ∧ (¬ l4 ≤ 0 → t23 = (h 18 o l8) + ((h 14 o a1) + (((((100 * (a2 - (h 19 o l8))) - l5) + l4) - 1) / l4)))))) → V G p l e (rmD 1 0) s m args below meth c (MQ below (QI G P) args s 0 0 (va_Aof G)) 11 130 [(11, o), (0, a1), (0, a2), (0, a3), (0, l4), (0, l5), (0, l6), (0, l7), (0, l8), (1, 0), (0, t23)] [] h 0 := by
        intro t23 he
        replace hw := hw t23 he
        clear he
        refine V.iload hc dX1_reached_130 rfl ?_
        refine V.iload hc dX1_reached_132 rfl ?_
        obtain ⟨q28, hw⟩ := hw
        have kJ29 : ∀ t27 : Int, ((t23 ≤ l6 → t27 = l6) ∧ (¬ t23 ≤ l6 → t27 = t23)) → V G p l e (rmD 1 0) s m args below meth c (MQ below (QI G P) args s 0 0 (va_Aof G)) 11 144 [(11, o), (0, a1), (0, a2), (0, a3), (0, l4), (0, l5), (1, 0), (0, l7), (0, l8), (1, 0), (1, 0)] [(0, t27)] h 0 := by
          intro t27 he
          replace hw := hw t27 he
          clear he
          refine V.istore hc dX1_reached_144 rfl (lo' := [(11, o), (0, a1), (0, a2), (0, a3), (0, l4), (0, l5), (0, t27), (0, l7), (0, l8), (1, 0), (1, 0)]) rfl ?_
          refine V.iinc hc dX1_reached_146 rfl rfl (lo' := [(11, o), (0, a1), (0, a2), (0, a3), (0, l4), (0, l5), (0, t27), (0, l7), (0, l8 + 1), (1, 0), (1, 0)]) rfl ?_
          refine V.goto hc (tgt := 31) dX1_reached_149 (by decide) ?_
          exact ih _ _ hw
        obtain ⟨g25, g26⟩ := q28
        refine V.icmp_le hc (tgt := 142) dX1_reached_134 (by decide) g25 g26 (fun c30 => ?_) (fun c30 => ?_)
        · refine V.iload hc dX1_reached_142 rfl ?_
          refine V.drop (lo' := [(11, o), (0, a1), (0, a2), (0, a3), (0, l4), (0, l5), (1, 0), (0, l7), (0, l8), (1, 0), (1, 0)]) ⟨Or.inr rfl, Or.inr rfl, Or.inr rfl, Or.inr rfl, Or.inr rfl, Or.inr rfl, Or.inl rfl, Or.inr rfl, Or.inr rfl, Or.inr rfl, Or.inl rfl, trivial⟩ ?_
          exact kJ29 _ ⟨fun _ => rfl, (fun q => absurd c30 q)⟩
        · refine V.iload hc dX1_reached_137 rfl ?_
          refine V.goto hc (tgt := 144) dX1_reached_139 (by decide) ?_
          refine V.drop (lo' := [(11, o), (0, a1), (0, a2), (0, a3), (0, l4), (0, l5), (1, 0), (0, l7), (0, l8), (1, 0), (1, 0)]) ⟨Or.inr rfl, Or.inr rfl, Or.inr rfl, Or.inr rfl, Or.inr rfl, Or.inr rfl, Or.inl rfl, Or.inr rfl, Or.inr rfl, Or.inr rfl, Or.inl rfl, trivial⟩ ?_
          exact kJ29 _ ⟨(fun q => absurd q c30), fun _ => rfl⟩
      obtain ⟨g9, g10, q32, q33⟩ := q24
      refine V.icmp_le hc (tgt := 108) dX1_reached_72 (by decide) g9 g10 (fun c34 => ?_) (fun c34 => ?_)
      · have q35 := q32 c34
        obtain ⟨g11, q36⟩ := q35
        refine V.iload hc dX1_reached_108 rfl ?_
        refine V.if_le hc (tgt := 130) dX1_reached_110 (by decide) g11 (fun c37 => ?_) (fun c37 => ?_)
        · refine V.drop (lo' := [(11, o), (0, a1), (0, a2), (0, a3), (0, l4), (0, l5), (0, l6), (0, l7), (0, l8), (1, 0), (0, h 18 o l8)]) ⟨Or.inr rfl, Or.inr rfl, Or.inr rfl, Or.inr rfl, Or.inr rfl, Or.inr rfl, Or.inr rfl, Or.inr rfl, Or.inr rfl, Or.inl rfl, Or.inr rfl, trivial⟩ ?_
          exact kJ31 _ ⟨fun _ => ⟨fun _ => rfl, (fun q => absurd c37 q)⟩, (fun q => absurd c34 q)⟩
        · have q38 := q36 c37
          obtain ⟨g12, q39⟩ := q38
          refine V.iload_n hc dX1_reached_113 rfl rfl ?_
          refine V.if_le hc (tgt := 130) dX1_reached_114 (by decide) g12 (fun c40 => ?_) (fun c40 => ?_)
          · refine V.drop (lo' := [(11, o), (0, a1), (0, a2), (0, a3), (0, l4), (0, l5), (0, l6), (0, l7), (0, l8), (1, 0), (0, h 18 o l8)]) ⟨Or.inr rfl, Or.inr rfl, Or.inr rfl, Or.inr rfl, Or.inr rfl, Or.inr rfl, Or.inr rfl, Or.inr rfl, Or.inr rfl, Or.inl rfl, Or.inr rfl, trivial⟩ ?_
            exact kJ31 _ ⟨fun _ => ⟨(fun q => absurd q c37), fun _ => ⟨fun _ => rfl, (fun q => absurd c40 q)⟩⟩, (fun q => absurd c34 q)⟩
          · have q41 := q39 c40
            obtain ⟨g13, g14⟩ := q41
            refine V.iload hc dX1_reached_117 rfl ?_
            refine V.iload hc dX1_reached_119 rfl ?_
            refine V.iload_n hc dX1_reached_121 rfl rfl ?_
            refine V.iadd hc dX1_reached_122 ?_
            refine V.iconst hc dX1_reached_123 ?_
            refine V.isub hc dX1_reached_124 ?_
            refine V.iload_n hc dX1_reached_125 rfl rfl ?_
            refine V.idiv hc g13 g14 dX1_reached_126 ?_
            refine V.iadd hc dX1_reached_127 ?_
            refine V.istore hc dX1_reached_128 rfl (lo' := [(11, o), (0, a1), (0, a2), (0, a3), (0, l4), (0, l5), (0, l6), (0, l7), (0, l8), (0, 100 * (a2 - (h 19 o l8))), (0, (h 18 o l8) + ((((100 * (a2 - (h 19 o l8))) + a3) - 1) / a3))]) rfl ?_
            refine V.drop (lo' := [(11, o), (0, a1), (0, a2), (0, a3), (0, l4), (0, l5), (0, l6), (0, l7), (0, l8), (1, 0), (0, (h 18 o l8) + ((((100 * (a2 - (h 19 o l8))) + a3) - 1) / a3))]) ⟨Or.inr rfl, Or.inr rfl, Or.inr rfl, Or.inr rfl, Or.inr rfl, Or.inr rfl, Or.inr rfl, Or.inr rfl, Or.inr rfl, Or.inl rfl, Or.inr rfl, trivial⟩ ?_
            exact kJ31 _ ⟨fun _ => ⟨(fun q => absurd q c37), fun _ => ⟨(fun q => absurd q c40), fun _ => rfl⟩⟩, (fun q => absurd c34 q)⟩
      · have q42 := q33 c34
        obtain ⟨g15, q43, q44⟩ := q42
        refine V.iload hc dX1_reached_75 rfl ?_
        refine V.if_le hc (tgt := 108) dX1_reached_77 (by decide) g15 (fun c45 => ?_) (fun c45 => ?_)
        · have q46 := q43 c45
          obtain ⟨g16, q47⟩ := q46
          refine V.iload hc dX1_reached_108 rfl ?_
          refine V.if_le hc (tgt := 130) dX1_reached_110 (by decide) g16 (fun c48 => ?_) (fun c48 => ?_)
          · refine V.drop (lo' := [(11, o), (0, a1), (0, a2), (0, a3), (0, l4), (0, l5), (0, l6), (0, l7), (0, l8), (1, 0), (0, h 18 o l8)]) ⟨Or.inr rfl, Or.inr rfl, Or.inr rfl, Or.inr rfl, Or.inr rfl, Or.inr rfl, Or.inr rfl, Or.inr rfl, Or.inr rfl, Or.inl rfl, Or.inr rfl, trivial⟩ ?_
            exact kJ31 _ ⟨(fun q => absurd q c34), fun _ => ⟨fun _ => ⟨fun _ => rfl, (fun q => absurd c48 q)⟩, (fun q => absurd c45 q)⟩⟩
          · have q49 := q47 c48
            obtain ⟨g17, q50⟩ := q49
            refine V.iload_n hc dX1_reached_113 rfl rfl ?_
            refine V.if_le hc (tgt := 130) dX1_reached_114 (by decide) g17 (fun c51 => ?_) (fun c51 => ?_)
            · refine V.drop (lo' := [(11, o), (0, a1), (0, a2), (0, a3), (0, l4), (0, l5), (0, l6), (0, l7), (0, l8), (1, 0), (0, h 18 o l8)]) ⟨Or.inr rfl, Or.inr rfl, Or.inr rfl, Or.inr rfl, Or.inr rfl, Or.inr rfl, Or.inr rfl, Or.inr rfl, Or.inr rfl, Or.inl rfl, Or.inr rfl, trivial⟩ ?_
              exact kJ31 _ ⟨(fun q => absurd q c34), fun _ => ⟨fun _ => ⟨(fun q => absurd q c48), fun _ => ⟨fun _ => rfl, (fun q => absurd c51 q)⟩⟩, (fun q => absurd c45 q)⟩⟩
            · have q52 := q50 c51
              obtain ⟨g18, g19⟩ := q52
              refine V.iload hc dX1_reached_117 rfl ?_
              refine V.iload hc dX1_reached_119 rfl ?_
              refine V.iload_n hc dX1_reached_121 rfl rfl ?_
              refine V.iadd hc dX1_reached_122 ?_
              refine V.iconst hc dX1_reached_123 ?_
              refine V.isub hc dX1_reached_124 ?_
              refine V.iload_n hc dX1_reached_125 rfl rfl ?_
              refine V.idiv hc g18 g19 dX1_reached_126 ?_
              refine V.iadd hc dX1_reached_127 ?_
              refine V.istore hc dX1_reached_128 rfl (lo' := [(11, o), (0, a1), (0, a2), (0, a3), (0, l4), (0, l5), (0, l6), (0, l7), (0, l8), (0, 100 * (a2 - (h 19 o l8))), (0, (h 18 o l8) + ((((100 * (a2 - (h 19 o l8))) + a3) - 1) / a3))]) rfl ?_
              refine V.drop (lo' := [(11, o), (0, a1), (0, a2), (0, a3), (0, l4), (0, l5), (0, l6), (0, l7), (0, l8), (1, 0), (0, (h 18 o l8) + ((((100 * (a2 - (h 19 o l8))) + a3) - 1) / a3))]) ⟨Or.inr rfl, Or.inr rfl, Or.inr rfl, Or.inr rfl, Or.inr rfl, Or.inr rfl, Or.inr rfl, Or.inr rfl, Or.inr rfl, Or.inl rfl, Or.inr rfl, trivial⟩ ?_
              exact kJ31 _ ⟨(fun q => absurd q c34), fun _ => ⟨fun _ => ⟨(fun q => absurd q c48), fun _ => ⟨(fun q => absurd q c51), fun _ => rfl⟩⟩, (fun q => absurd c45 q)⟩⟩
        · have q53 := q44 c45
          obtain ⟨g20, g21, g22⟩ := q53
          refine V.iload hc dX1_reached_80 rfl ?_
          refine V.aload_n (t := 1) hc dX1_reached_82 rfl rfl ?_
          refine V.gR hc gR_X1_15 (i' := o) rfl dX1_reached_83 ?_
          refine V.iload_n hc dX1_reached_86 rfl rfl ?_
          refine V.ald hc ak_14 g20 dX1_reached_87 ?_
          refine V.iload hc dX1_reached_88 rfl ?_
          refine V.iload hc dX1_reached_90 rfl ?_
          refine V.isub hc dX1_reached_92 ?_
          refine V.iload hc dX1_reached_93 rfl ?_
          refine V.iadd hc dX1_reached_95 ?_
          refine V.iconst hc dX1_reached_96 ?_
          refine V.isub hc dX1_reached_97 ?_
          refine V.iload hc dX1_reached_98 rfl ?_
          refine V.idiv hc g21 g22 dX1_reached_100 ?_
          refine V.iadd hc dX1_reached_101 ?_
          refine V.iadd hc dX1_reached_102 ?_
          refine V.istore hc dX1_reached_103 rfl (lo' := [(11, o), (0, a1), (0, a2), (0, a3), (0, l4), (0, l5), (0, l6), (0, l7), (0, l8), (0, 100 * (a2 - (h 19 o l8))), (0, (h 18 o l8) + ((h 14 o a1) + (((((100 * (a2 - (h 19 o l8))) - l5) + l4) - 1) / l4)))]) rfl ?_
          refine V.goto hc (tgt := 130) dX1_reached_105 (by decide) ?_
          refine V.drop (lo' := [(11, o), (0, a1), (0, a2), (0, a3), (0, l4), (0, l5), (0, l6), (0, l7), (0, l8), (1, 0), (0, (h 18 o l8) + ((h 14 o a1) + (((((100 * (a2 - (h 19 o l8))) - l5) + l4) - 1) / l4)))]) ⟨Or.inr rfl, Or.inr rfl, Or.inr rfl, Or.inr rfl, Or.inr rfl, Or.inr rfl, Or.inr rfl, Or.inr rfl, Or.inr rfl, Or.inl rfl, Or.inr rfl, trivial⟩ ?_
          exact kJ31 _ ⟨(fun q => absurd q c34), fun _ => ⟨(fun q => absurd q c45), fun _ => rfl⟩⟩
theorem qX1_reached (G : GG) (l : Launch) (o : Int) (a1 : Int) (a2 : Int) (a3 : Int) (h : HP) (P : Int → HP → Prop) (hw : wX1_reached o a1 a2 a3 h P) : CnI l G yX1_reached cX1_reached 11 (some .int) 1 [(11, o), (0, a1), (0, a2), (0, a3)] h P := by
  refine CnI.of (lo := [(11, o), (0, a1), (0, a2), (0, a3), (1, 0), (1, 0), (1, 0), (1, 0), (1, 0), (1, 0), (1, 0)]) (by decide) rfl rfl rfl ?_
  intro p e s m args below meth c hc hr
  have hc : VC G p (rmD 1 0) s m args meth c RX1 cX1_reached 11 1 := hc
  refine V.aload_n (t := 1) hc dX1_reached_0 rfl rfl ?_
  refine V.gR hc gR_X1_18 (i' := o) rfl dX1_reached_1 ?_
  refine V.iload_n hc dX1_reached_4 rfl rfl ?_
  obtain ⟨g1, hw⟩ := hw
  refine V.ald hc ak_15 g1 dX1_reached_5 ?_
  refine V.istore hc dX1_reached_6 rfl (lo' := [(11, o), (0, a1), (0, a2), (0, a3), (0, h 15 o a1), (1, 0), (1, 0), (1, 0), (1, 0), (1, 0), (1, 0)]) rfl ?_
  refine V.iload_n hc dX1_reached_8 rfl rfl ?_
  refine V.aload_n (t := 1) hc dX1_reached_9 rfl rfl ?_
  refine V.gR hc gR_X1_15 (i' := o) rfl dX1_reached_10 ?_
  refine V.iload_n hc dX1_reached_13 rfl rfl ?_
  obtain ⟨g2, hw⟩ := hw
  refine V.ald hc ak_14 g2 dX1_reached_14 ?_
  refine V.imul hc dX1_reached_15 ?_
  refine V.istore hc dX1_reached_16 rfl (lo' := [(11, o), (0, a1), (0, a2), (0, a3), (0, h 15 o a1), (0, a3 * (h 14 o a1)), (1, 0), (1, 0), (1, 0), (1, 0), (1, 0)]) rfl ?_
  refine V.iconst hc dX1_reached_18 ?_
  refine V.istore hc dX1_reached_19 rfl (lo' := [(11, o), (0, a1), (0, a2), (0, a3), (0, h 15 o a1), (0, a3 * (h 14 o a1)), (0, 0), (1, 0), (1, 0), (1, 0), (1, 0)]) rfl ?_
  refine V.iload_n hc dX1_reached_21 rfl rfl ?_
  refine V.bipush hc dX1_reached_22 (by decide) ?_
  refine V.imul hc dX1_reached_24 ?_
  refine V.istore hc dX1_reached_25 rfl (lo' := [(11, o), (0, a1), (0, a2), (0, a3), (0, h 15 o a1), (0, a3 * (h 14 o a1)), (0, 0), (0, a1 * 32), (1, 0), (1, 0), (1, 0)]) rfl ?_
  refine V.iload hc dX1_reached_27 rfl ?_
  refine V.istore hc dX1_reached_29 rfl (lo' := [(11, o), (0, a1), (0, a2), (0, a3), (0, h 15 o a1), (0, a3 * (h 14 o a1)), (0, 0), (0, a1 * 32), (0, a1 * 32), (1, 0), (1, 0)]) rfl ?_
  obtain ⟨f54, hw⟩ := hw
  refine tX1_reached_31 hc hr ?_ f54 _ _ hw
  · intro l55 hw
    refine V.iload hc dX1_reached_152 rfl ?_
    exact V.iret hc hr dX1_reached_154 hw
theorem qX6_eligible (G : GG) (l : Launch) (o : Int) (a1 : Int) (h : HP) (P : Int → HP → Prop) (hw : wX6_eligible o a1 h P) : CnI l G yX6_eligible cX6_eligible 5 (some .int) 2 [(16, o), (0, a1)] h P := by
  refine CnI.of (lo := [(16, o), (0, a1), (1, 0), (1, 0), (1, 0)]) (by decide) rfl rfl rfl ?_
  intro p e s m args below meth c hc hr
  have hc : VC G p (rmD 2 0) s m args meth c RX6 cX6_eligible 5 2 := hc
  refine V.iload_n hc dX6_eligible_0 rfl rfl ?_
  refine V.iconst hc dX6_eligible_1 ?_
  refine V.imul hc dX6_eligible_2 ?_
  refine V.iconst hc dX6_eligible_3 ?_
  refine V.iadd hc dX6_eligible_4 ?_
  refine V.istore_n hc dX6_eligible_5 rfl rfl (lo' := [(16, o), (0, a1), (0, (a1 * 3) + 0), (1, 0), (1, 0)]) rfl ?_
  refine V.aload_n (t := 6) hc dX6_eligible_6 rfl rfl ?_
  refine V.gR hc gR_X6_61 (i' := o) rfl dX6_eligible_7 ?_
  refine V.gR hc gR_X6_123 (i' := o) rfl dX6_eligible_10 ?_
  refine V.iload_n hc dX6_eligible_13 rfl rfl ?_
  obtain ⟨g1, hw⟩ := hw
  refine V.ald hc ak_13 g1 dX6_eligible_14 ?_
  refine V.istore_n hc dX6_eligible_15 rfl rfl (lo' := [(16, o), (0, a1), (0, (a1 * 3) + 0), (0, h 13 o ((a1 * 3) + 0)), (1, 0)]) rfl ?_
  refine V.aload_n (t := 6) hc dX6_eligible_16 rfl rfl ?_
  refine V.gR hc gR_X6_61 (i' := o) rfl dX6_eligible_17 ?_
  refine V.gR hc gR_X6_126 (i' := o) rfl dX6_eligible_20 ?_
  refine V.iload_n hc dX6_eligible_23 rfl rfl ?_
  obtain ⟨g2, hw⟩ := hw
  refine V.ald hc ak_15 g2 dX6_eligible_24 ?_
  refine V.istore hc dX6_eligible_25 rfl (lo' := [(16, o), (0, a1), (0, (a1 * 3) + 0), (0, h 13 o ((a1 * 3) + 0)), (0, h 15 o ((a1 * 3) + 0))]) rfl ?_
  refine V.aload_n (t := 6) hc dX6_eligible_27 rfl rfl ?_
  refine V.gR hc gR_X6_61 (i' := o) rfl dX6_eligible_28 ?_
  refine V.iload_n hc dX6_eligible_31 rfl rfl ?_
  refine V.aload_n (t := 6) hc dX6_eligible_32 rfl rfl ?_
  refine V.gR hc gR_X6_34 (i' := o) rfl dX6_eligible_33 ?_
  refine V.iload_n hc dX6_eligible_36 rfl rfl ?_
  obtain ⟨g3, hw⟩ := hw
  refine V.ald hc ak_25 g3 dX6_eligible_37 ?_
  refine V.iload_n hc dX6_eligible_38 rfl rfl ?_
  refine V.iload hc dX6_eligible_39 rfl ?_
  obtain ⟨q7, hw⟩ := hw
  have kJ10 : ∀ t6 : Int, ((h 15 o ((a1 * 3) + 0) ≤ h 13 o ((a1 * 3) + 0) → t6 = h 13 o ((a1 * 3) + 0)) ∧ (¬ h 15 o ((a1 * 3) + 0) ≤ h 13 o ((a1 * 3) + 0) → t6 = h 15 o ((a1 * 3) + 0))) → V G p l e (rmD 2 0) s m args below meth c (MQ below (QI G P) args s 0 0 (va_Aof G)) 5 50 [(1, 0), (1, 0), (1, 0), (1, 0), (1, 0)] [(0, t6), (0, h 25 o a1), (0, (a1 * 3) + 0), (11, o)] h 0 := by
    intro t6 he
    replace hw := hw t6 he
    clear he
    refine V.callVI hc (qX1_reached G l _ _ _ _ _ _ hw) mo_X1_reached ml_X6_129 (by rfl) rfl rfl (as := [(0, (a1 * 3) + 0), (0, h 25 o a1), (0, t6)]) rfl rfl rfl rfl rfl ⟨Nat.zero_le _, Nat.zero_le _⟩ dX6_eligible_50 (fun x9 h8 hw => ?_)
    exact V.iret hc hr dX6_eligible_53 hw
  obtain ⟨g4, g5⟩ := q7
  refine V.icmp_ge hc (tgt := 49) dX6_eligible_41 (by decide) g4 g5 (fun c11 => ?_) (fun c11 => ?_)
  · refine V.iload_n hc dX6_eligible_49 rfl rfl ?_
    refine V.drop (lo' := [(1, 0), (1, 0), (1, 0), (1, 0), (1, 0)]) ⟨Or.inl rfl, Or.inl rfl, Or.inl rfl, Or.inl rfl, Or.inl rfl, trivial⟩ ?_
    exact kJ10 _ ⟨fun _ => rfl, (fun q => absurd c11 q)⟩
  · refine V.iload hc dX6_eligible_44 rfl ?_
    refine V.goto hc (tgt := 50) dX6_eligible_46 (by decide) ?_
    refine V.drop (lo' := [(1, 0), (1, 0), (1, 0), (1, 0), (1, 0)]) ⟨Or.inl rfl, Or.inl rfl, Or.inl rfl, Or.inl rfl, Or.inl rfl, trivial⟩ ?_
    exact kJ10 _ ⟨(fun q => absurd q c11), fun _ => rfl⟩
theorem qX6_sizeOf (G : GG) (l : Launch) (o : Int) (a1 : Int) (a2 : Int) (h : HP) (P : Int → HP → Prop) (hw : wX6_sizeOf o a1 a2 h P) : CnI l G yX6_sizeOf cX6_sizeOf 3 (some .int) 1 [(16, o), (0, a1), (0, a2)] h P := by
  refine CnI.of (lo := [(16, o), (0, a1), (0, a2)]) (by decide) rfl rfl rfl ?_
  intro p e s m args below meth c hc hr
  have hc : VC G p (rmD 1 0) s m args meth c RX6 cX6_sizeOf 3 1 := hc
  refine V.aload_n (t := 6) hc dX6_sizeOf_0 rfl rfl ?_
  refine V.gR hc gR_X6_49 (i' := o) rfl dX6_sizeOf_1 ?_
  refine V.iload_n hc dX6_sizeOf_4 rfl rfl ?_
  refine V.bipush hc dX6_sizeOf_5 (by decide) ?_
  refine V.imul hc dX6_sizeOf_7 ?_
  refine V.aload_n (t := 6) hc dX6_sizeOf_8 rfl rfl ?_
  refine V.gR hc gR_X6_52 (i' := o) rfl dX6_sizeOf_9 ?_
  refine V.iload_n hc dX6_sizeOf_12 rfl rfl ?_
  obtain ⟨g1, hw⟩ := hw
  refine V.ald hc ak_31 g1 dX6_sizeOf_13 ?_
  refine V.iload_n hc dX6_sizeOf_14 rfl rfl ?_
  refine V.iadd hc dX6_sizeOf_15 ?_
  refine V.bipush hc dX6_sizeOf_16 (by decide) ?_
  obtain ⟨g2, hw⟩ := hw
  refine V.irem hc g2 (by omega) dX6_sizeOf_18 ?_
  refine V.iadd hc dX6_sizeOf_19 ?_
  obtain ⟨g3, hw⟩ := hw
  refine V.ald hc ak_30 g3 dX6_sizeOf_20 ?_
  exact V.iret hc hr dX6_sizeOf_21 hw
theorem qX6_deadline (G : GG) (l : Launch) (o : Int) (a1 : Int) (h : HP) (P : Int → HP → Prop) (hw : wX6_deadline o a1 h P) : CnI l G yX6_deadline cX6_deadline 3 (some .int) 2 [(16, o), (0, a1)] h P := by
  refine CnI.of (lo := [(16, o), (0, a1), (1, 0)]) (by decide) rfl rfl rfl ?_
  intro p e s m args below meth c hc hr
  have hc : VC G p (rmD 2 0) s m args meth c RX6 cX6_deadline 3 2 := hc
  refine V.iload_n hc dX6_deadline_0 rfl rfl ?_
  refine V.iconst hc dX6_deadline_1 ?_
  refine V.imul hc dX6_deadline_2 ?_
  refine V.iconst hc dX6_deadline_3 ?_
  refine V.iadd hc dX6_deadline_4 ?_
  refine V.istore_n hc dX6_deadline_5 rfl rfl (lo' := [(16, o), (0, a1), (0, (a1 * 3) + 0)]) rfl ?_
  refine V.aload_n (t := 6) hc dX6_deadline_6 rfl rfl ?_
  refine V.gR hc gR_X6_61 (i' := o) rfl dX6_deadline_7 ?_
  refine V.iload_n hc dX6_deadline_10 rfl rfl ?_
  refine V.aload_n (t := 6) hc dX6_deadline_11 rfl rfl ?_
  refine V.gR hc gR_X6_34 (i' := o) rfl dX6_deadline_12 ?_
  refine V.iload_n hc dX6_deadline_15 rfl rfl ?_
  obtain ⟨g1, hw⟩ := hw
  refine V.ald hc ak_25 g1 dX6_deadline_16 ?_
  refine V.aload_n (t := 6) hc dX6_deadline_17 rfl rfl ?_
  refine V.iload_n hc dX6_deadline_18 rfl rfl ?_
  refine V.iconst hc dX6_deadline_19 ?_
  refine V.callVI hc (qX6_sizeOf G l _ _ _ _ _ hw) mo_X6_sizeOf ml_X6_113 (by rfl) rfl rfl (as := [(0, a1), (0, 0)]) rfl rfl rfl rfl rfl ⟨Nat.zero_le _, Nat.zero_le _⟩ dX6_deadline_20 (fun x3 h2 hw => ?_)
  refine V.iadd hc dX6_deadline_23 ?_
  refine V.aload_n (t := 6) hc dX6_deadline_24 rfl rfl ?_
  refine V.gR hc gR_X6_61 (i' := o) rfl dX6_deadline_25 ?_
  refine V.gR hc gR_X6_123 (i' := o) rfl dX6_deadline_28 ?_
  refine V.iload_n hc dX6_deadline_31 rfl rfl ?_
  obtain ⟨g4, hw⟩ := hw
  refine V.ald hc ak_13 g4 dX6_deadline_32 ?_
  refine V.callVI hc (qX1_reached G l _ _ _ _ _ _ hw) mo_X1_reached ml_X6_129 (by rfl) rfl rfl (as := [(0, (a1 * 3) + 0), (0, (h 25 o a1) + x3), (0, h2 13 o ((a1 * 3) + 0))]) rfl rfl rfl rfl rfl ⟨Nat.zero_le _, Nat.zero_le _⟩ dX6_deadline_33 (fun x6 h5 hw => ?_)
  exact V.iret hc hr dX6_deadline_36 hw
theorem tX6_pickByDeadline_76 {G : GG} {p : Program} {l : Launch} {e : Jvm.Env} {s : State} {m : MethodId} {args : Array Value} {below : List Frame} {meth : Method} {c : Code} {P : Int → HP → Prop} (hc : VC G p (rmD 3 0) s m args meth c RX6 cX6_pickByDeadline 5 3) (hr : meth.sig.returnType = some .int) {o : Int} {l1 : Int} {l2 : Int} {l3 : Int} {h : HP} {K6 : Int → Int → Int → HP → Prop} (hK6 : ∀ (x1 : Int) (x2 : Int) (x3 : Int) (h : HP), K6 x1 x2 x3 h → V G p l e (rmD 3 0) s m args below meth c (MQ below (QI G P) args s 0 0 (va_Aof G)) 5 6 [(16, o), (0, x1), (0, x2), (0, x3), (1, 0)] [] h 0) (hw : wX6_pickByDeadline_76 o l1 l2 l3 K6 h) : V G p l e (rmD 3 0) s m args below meth c (MQ below (QI G P) args s 0 0 (va_Aof G)) 5 76 [(16, o), (0, l1), (0, l2), (0, l3), (1, 0)] [] h 0 := by
  refine V.iinc hc dX6_pickByDeadline_76 rfl rfl (lo' := [(16, o), (0, l1), (0, l2), (0, l3 + 1), (1, 0)]) rfl ?_
  refine V.goto hc (tgt := 6) dX6_pickByDeadline_79 (by decide) ?_
  exact hK6 _ _ _ _ hw
theorem tX6_pickByDeadline_6 {G : GG} {p : Program} {l : Launch} {e : Jvm.Env} {s : State} {m : MethodId} {args : Array Value} {below : List Frame} {meth : Method} {c : Code} {P : Int → HP → Prop} (hc : VC G p (rmD 3 0) s m args meth c RX6 cX6_pickByDeadline 5 3) (hr : meth.sig.returnType = some .int) {o : Int} {K82 : Int → HP → Prop} (hK82 : ∀ (x1 : Int) (h : HP), K82 x1 h → V G p l e (rmD 3 0) s m args below meth c (MQ below (QI G P) args s 0 0 (va_Aof G)) 5 82 [(1, 0), (0, x1), (1, 0), (1, 0), (1, 0)] [] h 0) : ∀ (f : Nat) (l1 : Int) (l2 : Int) (l3 : Int) (h : HP), wX6_pickByDeadline_6 o K82 f l1 l2 l3 h → V G p l e (rmD 3 0) s m args below meth c (MQ below (QI G P) args s 0 0 (va_Aof G)) 5 6 [(16, o), (0, l1), (0, l2), (0, l3), (1, 0)] [] h 0 := by
  intro f
  induction f with
  | zero =>
    intro l1 l2 l3 h hw
    exact hw.elim
  | succ f ih =>
    intro l1 l2 l3 h hw
    refine V.iload_n hc dX6_pickByDeadline_6 rfl rfl ?_
    refine V.aload_n (t := 6) hc dX6_pickByDeadline_7 rfl rfl ?_
    refine V.gR hc gR_X6_68 (i' := 1) rfl dX6_pickByDeadline_8 ?_
    refine V.gI hc gI_X6_96 rfl dX6_pickByDeadline_11 ?_
    obtain ⟨g1, hw⟩ := hw
    obtain ⟨g2, hw⟩ := hw
    refine V.icmp_ge hc (tgt := 82) dX6_pickByDeadline_14 (by decide) g1 g2 (fun c3 => ?_) (fun c3 => ?_)
    · replace hw := hw.1 c3
      refine V.drop (lo' := [(1, 0), (0, l1), (1, 0), (1, 0), (1, 0)]) ⟨Or.inl rfl, Or.inr rfl, Or.inl rfl, Or.inl rfl, Or.inr rfl, trivial⟩ ?_
      exact hK82 _ _ hw
    · replace hw := hw.2 c3
      refine V.aload_n (t := 6) hc dX6_pickByDeadline_17 rfl rfl ?_
      refine V.gR hc gR_X6_46 (i' := o) rfl dX6_pickByDeadline_18 ?_
      refine V.iload_n hc dX6_pickByDeadline_21 rfl rfl ?_
      obtain ⟨g4, hw⟩ := hw
      refine V.ald hc ak_29 g4 dX6_pickByDeadline_22 ?_
      obtain ⟨g5, hw⟩ := hw
      refine V.if_le hc (tgt := 76) dX6_pickByDeadline_23 (by decide) g5 (fun c6 => ?_) (fun c6 => ?_)
      · replace hw := hw.1 c6
        exact tX6_pickByDeadline_76 hc hr (fun y1 y2 y3 hy hw => by exact ih _ _ _ _ hw) hw
      · replace hw := hw.2 c6
        refine V.aload_n (t := 6) hc dX6_pickByDeadline_26 rfl rfl ?_
        refine V.gR hc gR_X6_61 (i' := o) rfl dX6_pickByDeadline_27 ?_
        refine V.iload_n hc dX6_pickByDeadline_30 rfl rfl ?_
        refine V.iconst hc dX6_pickByDeadline_31 ?_
        refine V.imul hc dX6_pickByDeadline_32 ?_
        refine V.iconst hc dX6_pickByDeadline_33 ?_
        refine V.iadd hc dX6_pickByDeadline_34 ?_
        refine V.callVI hc (qX1_has G l _ _ _ _ hw) mo_X1_has ml_X6_102 (by rfl) rfl rfl (as := [(0, (l3 * 3) + 0)]) rfl rfl rfl rfl rfl ⟨Nat.zero_le _, Nat.zero_le _⟩ dX6_pickByDeadline_35 (fun x8 h7 hw => ?_)
        obtain ⟨g9, hw⟩ := hw
        refine V.if_eq hc (tgt := 76) dX6_pickByDeadline_38 (by decide) g9 (fun c10 => ?_) (fun c10 => ?_)
        · replace hw := hw.1 c10
          exact tX6_pickByDeadline_76 hc hr (fun y1 y2 y3 hy hw => by exact ih _ _ _ _ hw) hw
        · replace hw := hw.2 c10
          refine V.aload_n (t := 6) hc dX6_pickByDeadline_41 rfl rfl ?_
          refine V.iload_n hc dX6_pickByDeadline_42 rfl rfl ?_
          refine V.callVI hc (qX6_eligible G l _ _ _ _ hw) mo_X6_eligible ml_X6_176 (by rfl) rfl rfl (as := [(0, l3)]) rfl rfl rfl rfl rfl ⟨Nat.zero_le _, Nat.zero_le _⟩ dX6_pickByDeadline_43 (fun x12 h11 hw => ?_)
          refine V.aload_n (t := 6) hc dX6_pickByDeadline_46 rfl rfl ?_
          refine V.gI hc gI_X6_9 rfl dX6_pickByDeadline_47 ?_
          obtain ⟨g13, hw⟩ := hw
          obtain ⟨g14, hw⟩ := hw
          refine V.icmp_gt hc (tgt := 76) dX6_pickByDeadline_50 (by decide) g13 g14 (fun c15 => ?_) (fun c15 => ?_)
          · replace hw := hw.1 c15
            exact tX6_pickByDeadline_76 hc hr (fun y1 y2 y3 hy hw => by exact ih _ _ _ _ hw) hw
          · replace hw := hw.2 c15
            refine V.aload_n (t := 6) hc dX6_pickByDeadline_53 rfl rfl ?_
            refine V.iload_n hc dX6_pickByDeadline_54 rfl rfl ?_
            refine V.callVI hc (qX6_deadline G l _ _ _ _ hw) mo_X6_deadline ml_X6_179 (by rfl) rfl rfl (as := [(0, l3)]) rfl rfl rfl rfl rfl ⟨Nat.zero_le _, Nat.zero_le _⟩ dX6_pickByDeadline_55 (fun x17 h16 hw => ?_)
            refine V.istore hc dX6_pickByDeadline_58 rfl (lo' := [(16, o), (0, l1), (0, l2), (0, l3), (0, x17)]) rfl ?_
            refine V.iload_n hc dX6_pickByDeadline_60 rfl rfl ?_
            refine V.iconst hc dX6_pickByDeadline_61 ?_
            obtain ⟨q23, hw⟩ := hw
            have kJ24 : ∀ t21 t22 : Int, ((l1 = (-1) → (t21 = l3 ∧ t22 = x17)) ∧ (¬ l1 = (-1) → ((l2 ≤ x17 → (t21 = l1 ∧ t22 = l2)) ∧ (¬ l2 ≤ x17 → (t21 = l3 ∧ t22 = x17))))) → V G p l e (rmD 3 0) s m args below meth c (MQ below (QI G P) args s 0 0 (va_Aof G)) 5 76 [(16, o), (0, t21), (0, t22), (0, l3), (1, 0)] [] h16 0 := by
              intro t21 t22 he
              replace hw := hw t21 t22 he
              clear he
              exact tX6_pickByDeadline_76 hc hr (fun y1 y2 y3 hy hw => by exact ih _ _ _ _ hw) hw
            obtain ⟨g18, q25⟩ := q23
            refine V.icmp_eq hc (tgt := 71) dX6_pickByDeadline_62 (by decide) g18 (by omega) (fun c26 => ?_) (fun c26 => ?_)
            · refine V.iload_n hc dX6_pickByDeadline_71 rfl rfl ?_
              refine V.istore_n hc dX6_pickByDeadline_72 rfl rfl (lo' := [(16, o), (0, l3), (0, l2), (0, l3), (0, x17)]) rfl ?_
              refine V.iload hc dX6_pickByDeadline_73 rfl ?_
              refine V.istore_n hc dX6_pickByDeadline_75 rfl rfl (lo' := [(16, o), (0, l3), (0, x17), (0, l3), (0, x17)]) rfl ?_
              refine V.drop (lo' := [(16, o), (0, l3), (0, x17), (0, l3), (1, 0)]) ⟨Or.inr rfl, Or.inr rfl, Or.inr rfl, Or.inr rfl, Or.inl rfl, trivial⟩ ?_
              exact kJ24 _ _ ⟨fun _ => ⟨rfl, rfl⟩, (fun q => absurd c26 q)⟩
            · have q27 := q25 c26
              obtain ⟨g19, g20⟩ := q27
              refine V.iload hc dX6_pickByDeadline_65 rfl ?_
              refine V.iload_n hc dX6_pickByDeadline_67 rfl rfl ?_
              refine V.icmp_ge hc (tgt := 76) dX6_pickByDeadline_68 (by decide) g19 g20 (fun c28 => ?_) (fun c28 => ?_)
              · refine V.drop (lo' := [(16, o), (0, l1), (0, l2), (0, l3), (1, 0)]) ⟨Or.inr rfl, Or.inr rfl, Or.inr rfl, Or.inr rfl, Or.inl rfl, trivial⟩ ?_
                exact kJ24 _ _ ⟨(fun q => absurd q c26), fun _ => ⟨fun _ => ⟨rfl, rfl⟩, (fun q => absurd c28 q)⟩⟩
              · refine V.iload_n hc dX6_pickByDeadline_71 rfl rfl ?_
                refine V.istore_n hc dX6_pickByDeadline_72 rfl rfl (lo' := [(16, o), (0, l3), (0, l2), (0, l3), (0, x17)]) rfl ?_
                refine V.iload hc dX6_pickByDeadline_73 rfl ?_
                refine V.istore_n hc dX6_pickByDeadline_75 rfl rfl (lo' := [(16, o), (0, l3), (0, x17), (0, l3), (0, x17)]) rfl ?_
                refine V.drop (lo' := [(16, o), (0, l3), (0, x17), (0, l3), (1, 0)]) ⟨Or.inr rfl, Or.inr rfl, Or.inr rfl, Or.inr rfl, Or.inl rfl, trivial⟩ ?_
                exact kJ24 _ _ ⟨(fun q => absurd q c26), fun _ => ⟨(fun q => absurd q c28), fun _ => ⟨rfl, rfl⟩⟩⟩
theorem qX6_pickByDeadline (G : GG) (l : Launch) (o : Int) (h : HP) (P : Int → HP → Prop) (hw : wX6_pickByDeadline o h P) : CnI l G yX6_pickByDeadline cX6_pickByDeadline 5 (some .int) 3 [(16, o)] h P := by
  refine CnI.of (lo := [(16, o), (1, 0), (1, 0), (1, 0), (1, 0)]) (by decide) rfl rfl rfl ?_
  intro p e s m args below meth c hc hr
  have hc : VC G p (rmD 3 0) s m args meth c RX6 cX6_pickByDeadline 5 3 := hc
  refine V.iconst hc dX6_pickByDeadline_0 ?_
  refine V.istore_n hc dX6_pickByDeadline_1 rfl rfl (lo' := [(16, o), (0, (-1)), (1, 0), (1, 0), (1, 0)]) rfl ?_
  refine V.iconst hc dX6_pickByDeadline_2 ?_
  refine V.istore_n hc dX6_pickByDeadline_3 rfl rfl (lo' := [(16, o), (0, (-1)), (0, 0), (1, 0), (1, 0)]) rfl ?_
  refine V.iconst hc dX6_pickByDeadline_4 ?_
  refine V.istore_n hc dX6_pickByDeadline_5 rfl rfl (lo' := [(16, o), (0, (-1)), (0, 0), (0, 0), (1, 0)]) rfl ?_
  obtain ⟨f29, hw⟩ := hw
  refine tX6_pickByDeadline_6 hc hr ?_ f29 _ _ _ _ hw
  · intro l30 h31 hw
    refine V.iload_n hc dX6_pickByDeadline_82 rfl rfl ?_
    exact V.iret hc hr dX6_pickByDeadline_83 hw
theorem tX6_send_72 {G : GG} {p : Program} {l : Launch} {e : Jvm.Env} {s : State} {m : MethodId} {args : Array Value} {below : List Frame} {meth : Method} {c : Code} {P : HP → Prop} (hc : VC G p (rmD 2 0) s m args meth c RX6 cX6_send 8 2) (hr : meth.sig.returnType = none) {o : Int} {a1 : Int} {a2 : Int} {l3 : Int} {K212 : HP → Prop} (hK212 : ∀  (h : HP), K212  h → V G p l e (rmD 2 0) s m args below meth c (MQ below (QV G P) args s 0 0 (va_Aof G)) 8 212 [(16, o), (0, a1), (1, 0), (0, l3), (1, 0), (1, 0), (1, 0), (1, 0)] [] h 0) : ∀ (f : Nat) (l4 : Int) (l5 : Int) (h : HP), wX6_send_72 o a1 a2 l3 K212 f l4 l5 h → V G p l e (rmD 2 0) s m args below meth c (MQ below (QV G P) args s 0 0 (va_Aof G)) 8 72 [(16, o), (0, a1), (1, 0), (0, l3), (0, l4), (0, l5), (1, 0), (1, 0)] [] h 0 := by
  intro f
  induction f with
  | zero =>
    intro l4 l5 h hw
    exact hw.elim
  | succ f ih =>
    intro l4 l5 h hw
    refine V.iload hc dX6_send_72 rfl ?_
    refine V.bipush hc dX6_send_74 (by decide) ?_
    obtain ⟨g19, hw⟩ := hw
    refine V.icmp_ge hc (tgt := 212) dX6_send_76 (by decide) g19 (by omega) (fun c20 => ?_) (fun c20 => ?_)
    · replace hw := hw.1 c20
      refine V.drop (lo' := [(16, o), (0, a1), (1, 0), (0, l3), (1, 0), (1, 0), (1, 0), (1, 0)]) ⟨Or.inr rfl, Or.inr rfl, Or.inr rfl, Or.inr rfl, Or.inl rfl, Or.inl rfl, Or.inr rfl, Or.inr rfl, trivial⟩ ?_
      exact hK212 _ hw
    · replace hw := hw.2 c20
      refine V.iload hc dX6_send_79 rfl ?_
      refine V.bipush hc dX6_send_81 (by decide) ?_
      obtain ⟨g21, hw⟩ := hw
      refine V.icmp_eq hc (tgt := 212) dX6_send_83 (by decide) g21 (by omega) (fun c22 => ?_) (fun c22 => ?_)
      · replace hw := hw.1 c22
        refine V.drop (lo' := [(16, o), (0, a1), (1, 0), (0, l3), (1, 0), (1, 0), (1, 0), (1, 0)]) ⟨Or.inr rfl, Or.inr rfl, Or.inr rfl, Or.inr rfl, Or.inl rfl, Or.inl rfl, Or.inr rfl, Or.inr rfl, trivial⟩ ?_
        exact hK212 _ hw
      · replace hw := hw.2 c22
        refine V.aload_n (t := 6) hc dX6_send_86 rfl rfl ?_
        refine V.gR hc gR_X6_68 (i' := 1) rfl dX6_send_87 ?_
        refine V.gR hc gR_X6_137 (i' := 1) rfl dX6_send_90 ?_
        refine V.iload hc dX6_send_93 rfl ?_
        obtain ⟨g23, hw⟩ := hw
        refine V.ald hc ak_37 g23 dX6_send_95 ?_
        refine V.istore hc dX6_send_96 rfl (lo' := [(16, o), (0, a1), (1, 0), (0, l3), (0, l4), (0, l5), (0, h 37 1 l4), (1, 0)]) rfl ?_
        refine V.iload hc dX6_send_98 rfl ?_
        refine V.iconst hc dX6_send_100 ?_
        refine V.imul hc dX6_send_101 ?_
        refine V.iconst hc dX6_send_102 ?_
        refine V.iadd hc dX6_send_103 ?_
        refine V.istore hc dX6_send_104 rfl (lo' := [(16, o), (0, a1), (1, 0), (0, l3), (0, l4), (0, l5), (0, h 37 1 l4), (0, (l4 * 3) + 1)]) rfl ?_
        refine V.aload_n (t := 6) hc dX6_send_106 rfl rfl ?_
        refine V.gR hc gR_X6_46 (i' := o) rfl dX6_send_107 ?_
        refine V.iload hc dX6_send_110 rfl ?_
        refine V.dup2 hc dX6_send_112 (by simp) (by simp) ?_
        obtain ⟨g24, hw⟩ := hw
        refine V.ald hc ak_29 g24 dX6_send_113 ?_
        refine V.iconst hc dX6_send_114 ?_
        refine V.isub hc dX6_send_115 ?_
        obtain ⟨g26, hw⟩ := hw
        refine V.ast hc ak_29 g26 dX6_send_116 (fun h25 e => ?_)
        replace hw := hw h25 e
        clear e
        refine V.aload_n (t := 6) hc dX6_send_117 rfl rfl ?_
        refine V.gR hc gR_X6_30 (i' := o) rfl dX6_send_118 ?_
        refine V.iload hc dX6_send_121 rfl ?_
        refine V.dup2 hc dX6_send_123 (by simp) (by simp) ?_
        obtain ⟨g27, hw⟩ := hw
        refine V.ald hc ak_24 g27 dX6_send_124 ?_
        refine V.iload_n hc dX6_send_125 rfl rfl ?_
        refine V.iadd hc dX6_send_126 ?_
        obtain ⟨g29, hw⟩ := hw
        refine V.ast hc ak_24 g29 dX6_send_127 (fun h28 e => ?_)
        replace hw := hw h28 e
        clear e
        refine V.aload_n (t := 6) hc dX6_send_128 rfl rfl ?_
        refine V.gR hc gR_X6_37 (i' := o) rfl dX6_send_129 ?_
        refine V.iload hc dX6_send_132 rfl ?_
        refine V.aload_n (t := 6) hc dX6_send_134 rfl rfl ?_
        refine V.gR hc gR_X6_61 (i' := o) rfl dX6_send_135 ?_
        refine V.iload hc dX6_send_138 rfl ?_
        refine V.aload_n (t := 6) hc dX6_send_140 rfl rfl ?_
        refine V.gR hc gR_X6_30 (i' := o) rfl dX6_send_141 ?_
        refine V.iload hc dX6_send_144 rfl ?_
        obtain ⟨g30, hw⟩ := hw
        refine V.ald hc ak_24 g30 dX6_send_146 ?_
        refine V.aload_n (t := 6) hc dX6_send_147 rfl rfl ?_
        refine V.gR hc gR_X6_61 (i' := o) rfl dX6_send_148 ?_
        refine V.gR hc gR_X6_123 (i' := o) rfl dX6_send_151 ?_
        refine V.iload hc dX6_send_154 rfl ?_
        obtain ⟨g31, hw⟩ := hw
        refine V.ald hc ak_13 g31 dX6_send_156 ?_
        refine V.callVI hc (qX1_reached G l _ _ _ _ _ _ hw) mo_X1_reached ml_X6_129 (by rfl) rfl rfl (as := [(0, (l4 * 3) + 1), (0, h28 24 o l4), (0, h28 13 o ((l4 * 3) + 1))]) rfl rfl rfl rfl rfl ⟨Nat.zero_le _, Nat.zero_le _⟩ dX6_send_157 (fun x33 h32 hw => ?_)
        obtain ⟨g35, hw⟩ := hw
        refine V.ast hc ak_26 g35 dX6_send_160 (fun h34 e => ?_)
        replace hw := hw h34 e
        clear e
        refine V.aload_n (t := 6) hc dX6_send_161 rfl rfl ?_
        refine V.gR hc gR_X6_40 (i' := o) rfl dX6_send_162 ?_
        refine V.iload hc dX6_send_165 rfl ?_
        refine V.aload_n (t := 6) hc dX6_send_167 rfl rfl ?_
        refine V.gR hc gR_X6_37 (i' := o) rfl dX6_send_168 ?_
        refine V.iload hc dX6_send_171 rfl ?_
        obtain ⟨g36, hw⟩ := hw
        refine V.ald hc ak_26 g36 dX6_send_173 ?_
        refine V.aload_n (t := 6) hc dX6_send_174 rfl rfl ?_
        refine V.gR hc gR_X6_40 (i' := o) rfl dX6_send_175 ?_
        refine V.iload hc dX6_send_178 rfl ?_
        obtain ⟨g37, hw⟩ := hw
        refine V.ald hc ak_27 g37 dX6_send_180 ?_
        obtain ⟨q43, hw⟩ := hw
        have kJ46 : ∀ t42 : Int, ((h34 26 o l4 ≤ h34 27 o (h 37 1 l4) → t42 = h34 27 o (h 37 1 l4)) ∧ (¬ h34 26 o l4 ≤ h34 27 o (h 37 1 l4) → t42 = h34 26 o l4)) → V G p l e (rmD 2 0) s m args below meth c (MQ below (QV G P) args s 0 0 (va_Aof G)) 8 201 [(16, o), (0, a1), (1, 0), (0, l3), (1, 0), (0, l5), (0, h 37 1 l4), (1, 0)] [(0, t42), (0, h 37 1 l4), (37, o)] h34 0 := by
          intro t42 he
          replace hw := hw t42 he
          clear he
          obtain ⟨g45, hw⟩ := hw
          refine V.ast hc ak_27 g45 dX6_send_201 (fun h44 e => ?_)
          replace hw := hw h44 e
          clear e
          refine V.iload hc dX6_send_202 rfl ?_
          refine V.istore hc dX6_send_204 rfl (lo' := [(16, o), (0, a1), (1, 0), (0, l3), (0, h 37 1 l4), (0, l5), (0, h 37 1 l4), (1, 0)]) rfl ?_
          refine V.iinc hc dX6_send_206 rfl rfl (lo' := [(16, o), (0, a1), (1, 0), (0, l3), (0, h 37 1 l4), (0, l5 + 1), (0, h 37 1 l4), (1, 0)]) rfl ?_
          refine V.goto hc (tgt := 72) dX6_send_209 (by decide) ?_
          refine V.drop (lo' := [(16, o), (0, a1), (1, 0), (0, l3), (0, h 37 1 l4), (0, l5 + 1), (1, 0), (1, 0)]) ⟨Or.inr rfl, Or.inr rfl, Or.inr rfl, Or.inr rfl, Or.inr rfl, Or.inr rfl, Or.inl rfl, Or.inr rfl, trivial⟩ ?_
          exact ih _ _ _ hw
        obtain ⟨g38, g39, q47, q48⟩ := q43
        refine V.icmp_le hc (tgt := 194) dX6_send_181 (by decide) g38 g39 (fun c49 => ?_) (fun c49 => ?_)
        · have q50 := q47 c49
          have g40 := q50
          refine V.aload_n (t := 6) hc dX6_send_194 rfl rfl ?_
          refine V.gR hc gR_X6_40 (i' := o) rfl dX6_send_195 ?_
          refine V.iload hc dX6_send_198 rfl ?_
          refine V.ald hc ak_27 g40 dX6_send_200 ?_
          refine V.drop (lo' := [(16, o), (0, a1), (1, 0), (0, l3), (1, 0), (0, l5), (0, h 37 1 l4), (1, 0)]) ⟨Or.inr rfl, Or.inr rfl, Or.inr rfl, Or.inr rfl, Or.inl rfl, Or.inr rfl, Or.inr rfl, Or.inl rfl, trivial⟩ ?_
          exact kJ46 _ ⟨fun _ => rfl, (fun q => absurd c49 q)⟩
        · have q51 := q48 c49
          have g41 := q51
          refine V.aload_n (t := 6) hc dX6_send_184 rfl rfl ?_
          refine V.gR hc gR_X6_37 (i' := o) rfl dX6_send_185 ?_
          refine V.iload hc dX6_send_188 rfl ?_
          refine V.ald hc ak_26 g41 dX6_send_190 ?_
          refine V.goto hc (tgt := 201) dX6_send_191 (by decide) ?_
          refine V.drop (lo' := [(16, o), (0, a1), (1, 0), (0, l3), (1, 0), (0, l5), (0, h 37 1 l4), (1, 0)]) ⟨Or.inr rfl, Or.inr rfl, Or.inr rfl, Or.inr rfl, Or.inl rfl, Or.inr rfl, Or.inr rfl, Or.inl rfl, trivial⟩ ?_
          exact kJ46 _ ⟨(fun q => absurd q c49), fun _ => rfl⟩
theorem qX6_send (G : GG) (l : Launch) (o : Int) (a1 : Int) (a2 : Int) (h : HP) (P : HP → Prop) (hw : wX6_send o a1 a2 h P) : CnV l G yX6_send cX6_send 8 2 [(16, o), (0, a1), (0, a2)] h P := by
  refine CnV.of (lo := [(16, o), (0, a1), (0, a2), (1, 0), (1, 0), (1, 0), (1, 0), (1, 0)]) (by decide) rfl rfl rfl ?_
  intro p e s m args below meth c hc hr
  have hc : VC G p (rmD 2 0) s m args meth c RX6 cX6_send 8 2 := hc
  refine V.iload_n hc dX6_send_0 rfl rfl ?_
  refine V.iconst hc dX6_send_1 ?_
  obtain ⟨g1, hw⟩ := hw
  refine V.icmp_ne hc (tgt := 6) dX6_send_2 (by decide) g1 (by omega) (fun c2 => ?_) (fun c2 => ?_)
  · replace hw := hw.1 c2
    refine V.aload_n (t := 6) hc dX6_send_6 rfl rfl ?_
    refine V.iload_n hc dX6_send_7 rfl rfl ?_
    refine V.iconst hc dX6_send_8 ?_
    refine V.callVI hc (qX6_sizeOf G l _ _ _ _ _ hw) mo_X6_sizeOf ml_X6_113 (by rfl) rfl rfl (as := [(0, a1), (0, 0)]) rfl rfl rfl rfl rfl ⟨Nat.zero_le _, Nat.zero_le _⟩ dX6_send_9 (fun x4 h3 hw => ?_)
    refine V.istore_n hc dX6_send_12 rfl rfl (lo' := [(16, o), (0, a1), (0, a2), (0, x4), (1, 0), (1, 0), (1, 0), (1, 0)]) rfl ?_
    refine V.aload_n (t := 6) hc dX6_send_13 rfl rfl ?_
    refine V.gR hc gR_X6_34 (i' := o) rfl dX6_send_14 ?_
    refine V.iload_n hc dX6_send_17 rfl rfl ?_
    refine V.dup2 hc dX6_send_18 (by simp) (by simp) ?_
    obtain ⟨g5, hw⟩ := hw
    refine V.ald hc ak_25 g5 dX6_send_19 ?_
    refine V.iload_n hc dX6_send_20 rfl rfl ?_
    obtain ⟨q8, hw⟩ := hw
    have kJ60 : ∀ t7 : Int, ((a2 = 0 → t7 = 0) ∧ (¬ a2 = 0 → t7 = x4)) → V G p l e (rmD 2 0) s m args below meth c (MQ below (QV G P) args s 0 0 (va_Aof G)) 8 29 [(16, o), (0, a1), (0, a2), (0, x4), (1, 0), (1, 0), (1, 0), (1, 0)] [(0, t7), (0, h3 25 o a1), (0, a1), (35, o)] h3 0 := by
      intro t7 he
      replace hw := hw t7 he
      clear he
      refine V.iadd hc dX6_send_29 ?_
      obtain ⟨g10, hw⟩ := hw
      refine V.ast hc ak_25 g10 dX6_send_30 (fun h9 e => ?_)
      replace hw := hw h9 e
      clear e
      refine V.aload_n (t := 6) hc dX6_send_31 rfl rfl ?_
      refine V.dup hc dX6_send_32 (by simp) ?_
      refine V.gI hc gI_X6_21 rfl dX6_send_33 ?_
      refine V.iload_n hc dX6_send_36 rfl rfl ?_
      obtain ⟨q13, hw⟩ := hw
      have kJ58 : ∀ t12 : Int, ((a2 = 0 → t12 = 0) ∧ (¬ a2 = 0 → t12 = 1)) → V G p l e (rmD 2 0) s m args below meth c (MQ below (QV G P) args s 0 0 (va_Aof G)) 8 45 [(16, o), (0, a1), (1, 0), (0, x4), (1, 0), (1, 0), (1, 0), (1, 0)] [(0, t12), (0, h9 6 o 4), (16, o)] h9 0 := by
        intro t12 he
        replace hw := hw t12 he
        clear he
        refine V.iadd hc dX6_send_45 ?_
        refine V.pI hc pI_X6_21 rfl dX6_send_46 (fun h14 e => ?_)
        replace hw := hw h14 e
        clear e
        refine V.aload_n (t := 6) hc dX6_send_49 rfl rfl ?_
        refine V.gR hc gR_X6_52 (i' := o) rfl dX6_send_50 ?_
        refine V.iload_n hc dX6_send_53 rfl rfl ?_
        refine V.aload_n (t := 6) hc dX6_send_54 rfl rfl ?_
        refine V.gR hc gR_X6_52 (i' := o) rfl dX6_send_55 ?_
        refine V.iload_n hc dX6_send_58 rfl rfl ?_
        obtain ⟨g15, hw⟩ := hw
        refine V.ald hc ak_31 g15 dX6_send_59 ?_
        refine V.iconst hc dX6_send_60 ?_
        refine V.iadd hc dX6_send_61 ?_
        refine V.bipush hc dX6_send_62 (by decide) ?_
        obtain ⟨g16, hw⟩ := hw
        refine V.irem hc g16 (by omega) dX6_send_64 ?_
        obtain ⟨g18, hw⟩ := hw
        refine V.ast hc ak_31 g18 dX6_send_65 (fun h17 e => ?_)
        replace hw := hw h17 e
        clear e
        refine V.iload_n hc dX6_send_66 rfl rfl ?_
        refine V.istore hc dX6_send_67 rfl (lo' := [(16, o), (0, a1), (1, 0), (0, x4), (0, a1), (1, 0), (1, 0), (1, 0)]) rfl ?_
        refine V.iconst hc dX6_send_69 ?_
        refine V.istore hc dX6_send_70 rfl (lo' := [(16, o), (0, a1), (1, 0), (0, x4), (0, a1), (0, 0), (1, 0), (1, 0)]) rfl ?_
        obtain ⟨f52, hw⟩ := hw
        refine tX6_send_72 hc hr ?_ f52 _ _ _ hw
        · intro h53 hw
          refine V.aload_n (t := 6) hc dX6_send_212 rfl rfl ?_
          refine V.gR hc gR_X6_46 (i' := o) rfl dX6_send_213 ?_
          refine V.bipush hc dX6_send_216 (by decide) ?_
          refine V.dup2 hc dX6_send_218 (by simp) (by simp) ?_
          refine V.ald hc ak_29 (by omega) dX6_send_219 ?_
          refine V.iconst hc dX6_send_220 ?_
          refine V.isub hc dX6_send_221 ?_
          refine V.ast hc ak_29 (by omega) dX6_send_222 (fun h54 e => ?_)
          replace hw := hw h54 e
          clear e
          refine V.aload_n (t := 6) hc dX6_send_223 rfl rfl ?_
          refine V.dup hc dX6_send_224 (by simp) ?_
          refine V.gI hc gI_X6_18 rfl dX6_send_225 ?_
          refine V.iconst hc dX6_send_228 ?_
          refine V.iadd hc dX6_send_229 ?_
          refine V.pI hc pI_X6_18 rfl dX6_send_230 (fun h55 e => ?_)
          replace hw := hw h55 e
          clear e
          refine V.aload_n (t := 6) hc dX6_send_233 rfl rfl ?_
          refine V.iload_n hc dX6_send_234 rfl rfl ?_
          refine V.pI hc pI_X6_24 rfl dX6_send_235 (fun h56 e => ?_)
          replace hw := hw h56 e
          clear e
          refine V.aload_n (t := 6) hc dX6_send_238 rfl rfl ?_
          refine V.iload_n hc dX6_send_239 rfl rfl ?_
          refine V.pI hc pI_X6_15 rfl dX6_send_240 (fun h57 e => ?_)
          replace hw := hw h57 e
          clear e
          exact V.vret hc hr dX6_send_243 hw
      have g11 := q13
      refine V.if_eq hc (tgt := 44) dX6_send_37 (by decide) g11 (fun c59 => ?_) (fun c59 => ?_)
      · refine V.iconst hc dX6_send_44 ?_
        refine V.drop (lo' := [(16, o), (0, a1), (1, 0), (0, x4), (1, 0), (1, 0), (1, 0), (1, 0)]) ⟨Or.inr rfl, Or.inr rfl, Or.inl rfl, Or.inr rfl, Or.inr rfl, Or.inr rfl, Or.inr rfl, Or.inr rfl, trivial⟩ ?_
        exact kJ58 _ ⟨fun _ => rfl, (fun q => absurd c59 q)⟩
      · refine V.iconst hc dX6_send_40 ?_
        refine V.goto hc (tgt := 45) dX6_send_41 (by decide) ?_
        refine V.drop (lo' := [(16, o), (0, a1), (1, 0), (0, x4), (1, 0), (1, 0), (1, 0), (1, 0)]) ⟨Or.inr rfl, Or.inr rfl, Or.inl rfl, Or.inr rfl, Or.inr rfl, Or.inr rfl, Or.inr rfl, Or.inr rfl, trivial⟩ ?_
        exact kJ58 _ ⟨(fun q => absurd q c59), fun _ => rfl⟩
    have g6 := q8
    refine V.if_eq hc (tgt := 28) dX6_send_21 (by decide) g6 (fun c61 => ?_) (fun c61 => ?_)
    · refine V.iconst hc dX6_send_28 ?_
      exact kJ60 _ ⟨fun _ => rfl, (fun q => absurd c61 q)⟩
    · refine V.iload_n hc dX6_send_24 rfl rfl ?_
      refine V.goto hc (tgt := 29) dX6_send_25 (by decide) ?_
      exact kJ60 _ ⟨(fun q => absurd q c61), fun _ => rfl⟩
  · replace hw := hw.2 c2
    exact V.vret hc hr dX6_send_5 hw
theorem tX6_weighFits_2 {G : GG} {p : Program} {l : Launch} {e : Jvm.Env} {s : State} {m : MethodId} {args : Array Value} {below : List Frame} {meth : Method} {c : Code} {P : HP → Prop} (hc : VC G p (rmD 2 0) s m args meth c RX6 cX6_weighFits 5 2) (hr : meth.sig.returnType = none) {o : Int} {K37 : HP → Prop} (hK37 : ∀  (h : HP), K37  h → V G p l e (rmD 2 0) s m args below meth c (MQ below (QV G P) args s 0 0 (va_Aof G)) 5 37 [(16, o), (1, 0), (1, 0), (1, 0), (1, 0)] [] h 0) : ∀ (f : Nat) (l1 : Int) (h : HP), wX6_weighFits_2 o K37 f l1 h → V G p l e (rmD 2 0) s m args below meth c (MQ below (QV G P) args s 0 0 (va_Aof G)) 5 2 [(16, o), (0, l1), (1, 0), (1, 0), (1, 0)] [] h 0 := by
  intro f
  induction f with
  | zero =>
    intro l1 h hw
    exact hw.elim
  | succ f ih =>
    intro l1 h hw
    refine V.iload_n hc dX6_weighFits_2 rfl rfl ?_
    refine V.bipush hc dX6_weighFits_3 (by decide) ?_
    obtain ⟨g1, hw⟩ := hw
    refine V.icmp_gt hc (tgt := 37) dX6_weighFits_5 (by decide) g1 (by omega) (fun c2 => ?_) (fun c2 => ?_)
    · replace hw := hw.1 c2
      refine V.drop (lo' := [(16, o), (1, 0), (1, 0), (1, 0), (1, 0)]) ⟨Or.inr rfl, Or.inl rfl, Or.inr rfl, Or.inr rfl, Or.inr rfl, trivial⟩ ?_
      exact hK37 _ hw
    · replace hw := hw.2 c2
      refine V.aload_n (t := 6) hc dX6_weighFits_8 rfl rfl ?_
      refine V.gR hc gR_X6_65 (i' := o) rfl dX6_weighFits_9 ?_
      refine V.iload_n hc dX6_weighFits_12 rfl rfl ?_
      refine V.aload_n (t := 6) hc dX6_weighFits_13 rfl rfl ?_
      refine V.gR hc gR_X6_68 (i' := 1) rfl dX6_weighFits_14 ?_
      refine V.iload_n hc dX6_weighFits_17 rfl rfl ?_
      refine V.callVI hc (qX8_isLeaf G l _ _ _ _ hw) mo_X8_isLeaf ml_X6_106 (by rfl) rfl rfl (as := [(0, l1)]) rfl rfl rfl rfl rfl ⟨Nat.zero_le _, Nat.zero_le _⟩ dX6_weighFits_18 (fun x4 h3 hw => ?_)
      obtain ⟨q7, hw⟩ := hw
      have kJ10 : ∀ t6 : Int, ((x4 = 0 → t6 = 1000000) ∧ (¬ x4 = 0 → t6 = 0)) → V G p l e (rmD 2 0) s m args below meth c (MQ below (QV G P) args s 0 0 (va_Aof G)) 5 30 [(16, o), (0, l1), (1, 0), (1, 0), (1, 0)] [(0, t6), (0, l1), (43, o)] h3 0 := by
        intro t6 he
        replace hw := hw t6 he
        clear he
        obtain ⟨g9, hw⟩ := hw
        refine V.ast hc ak_33 g9 dX6_weighFits_30 (fun h8 e => ?_)
        replace hw := hw h8 e
        clear e
        refine V.iinc hc dX6_weighFits_31 rfl rfl (lo' := [(16, o), (0, l1 + 1), (1, 0), (1, 0), (1, 0)]) rfl ?_
        refine V.goto hc (tgt := 2) dX6_weighFits_34 (by decide) ?_
        exact ih _ _ hw
      have g5 := q7
      refine V.if_eq hc (tgt := 28) dX6_weighFits_21 (by decide) g5 (fun c11 => ?_) (fun c11 => ?_)
      · refine V.ldc hc (x := 1000000) kl_X6_136 dX6_weighFits_28 ?_
        exact kJ10 _ ⟨fun _ => rfl, (fun q => absurd c11 q)⟩
      · refine V.iconst hc dX6_weighFits_24 ?_
        refine V.goto hc (tgt := 30) dX6_weighFits_25 (by decide) ?_
        exact kJ10 _ ⟨(fun q => absurd q c11), fun _ => rfl⟩
theorem tX6_weighFits_181 {G : GG} {p : Program} {l : Launch} {e : Jvm.Env} {s : State} {m : MethodId} {args : Array Value} {below : List Frame} {meth : Method} {c : Code} {P : HP → Prop} (hc : VC G p (rmD 2 0) s m args meth c RX6 cX6_weighFits 5 2) (hr : meth.sig.returnType = none) {o : Int} {l1 : Int} {h : HP} {K47 : Int → HP → Prop} (hK47 : ∀ (x1 : Int) (h : HP), K47 x1 h → V G p l e (rmD 2 0) s m args below meth c (MQ below (QV G P) args s 0 0 (va_Aof G)) 5 47 [(16, o), (0, x1), (1, 0), (1, 0), (1, 0)] [] h 0) (hw : wX6_weighFits_181 o l1 K47 h) : V G p l e (rmD 2 0) s m args below meth c (MQ below (QV G P) args s 0 0 (va_Aof G)) 5 181 [(16, o), (0, l1), (1, 0), (1, 0), (1, 0)] [] h 0 := by
  refine V.iinc hc dX6_weighFits_181 rfl rfl (lo' := [(16, o), (0, l1 + (-1)), (1, 0), (1, 0), (1, 0)]) rfl ?_
  refine V.goto hc (tgt := 47) dX6_weighFits_184 (by decide) ?_
  exact hK47 _ _ hw
theorem tX6_weighFits_104 {G : GG} {p : Program} {l : Launch} {e : Jvm.Env} {s : State} {m : MethodId} {args : Array Value} {below : List Frame} {meth : Method} {c : Code} {P : HP → Prop} (hc : VC G p (rmD 2 0) s m args meth c RX6 cX6_weighFits 5 2) (hr : meth.sig.returnType = none) {o : Int} {l1 : Int} {s0 : Int} {h : HP} {K47 : Int → HP → Prop} (hK47 : ∀ (x1 : Int) (h : HP), K47 x1 h → V G p l e (rmD 2 0) s m args below meth c (MQ below (QV G P) args s 0 0 (va_Aof G)) 5 47 [(16, o), (0, x1), (1, 0), (1, 0), (1, 0)] [] h 0) (hw : wX6_weighFits_104 o l1 s0 K47 h) : V G p l e (rmD 2 0) s m args below meth c (MQ below (QV G P) args s 0 0 (va_Aof G)) 5 104 [(16, o), (0, l1), (1, 0), (1, 0), (1, 0)] [(0, s0)] h 0 := by
  refine V.istore_n hc dX6_weighFits_104 rfl rfl (lo' := [(16, o), (0, l1), (1, 0), (0, s0), (1, 0)]) rfl ?_
  refine V.aload_n (t := 6) hc dX6_weighFits_105 rfl rfl ?_
  refine V.gR hc gR_X6_65 (i' := o) rfl dX6_weighFits_106 ?_
  refine V.iload_n hc dX6_weighFits_109 rfl rfl ?_
  refine V.iload_n hc dX6_weighFits_110 rfl rfl ?_
  refine V.aload_n (t := 6) hc dX6_weighFits_111 rfl rfl ?_
  refine V.gR hc gR_X6_65 (i' := o) rfl dX6_weighFits_112 ?_
  refine V.iload_n hc dX6_weighFits_115 rfl rfl ?_
  obtain ⟨g23, hw⟩ := hw
  refine V.ald hc ak_33 g23 dX6_weighFits_116 ?_
  obtain ⟨q28, hw⟩ := hw
  have kJ48 : ∀ t27 : Int, ((s0 ≤ h 33 o l1 → t27 = h 33 o l1) ∧ (¬ s0 ≤ h 33 o l1 → t27 = s0)) → V G p l e (rmD 2 0) s m args below meth c (MQ below (QV G P) args s 0 0 (va_Aof G)) 5 130 [(16, o), (0, l1), (1, 0), (1, 0), (1, 0)] [(0, t27), (0, l1), (43, o)] h 0 := by
    intro t27 he
    replace hw := hw t27 he
    clear he
    obtain ⟨g30, hw⟩ := hw
    refine V.ast hc ak_33 g30 dX6_weighFits_130 (fun h29 e => ?_)
    replace hw := hw h29 e
    clear e
    refine V.aload_n (t := 6) hc dX6_weighFits_131 rfl rfl ?_
    refine V.gR hc gR_X6_68 (i' := 1) rfl dX6_weighFits_132 ?_
    refine V.gR hc gR_X6_137 (i' := 1) rfl dX6_weighFits_135 ?_
    refine V.iload_n hc dX6_weighFits_138 rfl rfl ?_
    obtain ⟨g31, hw⟩ := hw
    refine V.ald hc ak_37 g31 dX6_weighFits_139 ?_
    refine V.istore hc dX6_weighFits_140 rfl (lo' := [(16, o), (0, l1), (1, 0), (1, 0), (0, h29 37 1 l1)]) rfl ?_
    refine V.aload_n (t := 6) hc dX6_weighFits_142 rfl rfl ?_
    refine V.gR hc gR_X6_65 (i' := o) rfl dX6_weighFits_143 ?_
    refine V.iload hc dX6_weighFits_146 rfl ?_
    refine V.aload_n (t := 6) hc dX6_weighFits_148 rfl rfl ?_
    refine V.gR hc gR_X6_65 (i' := o) rfl dX6_weighFits_149 ?_
    refine V.iload_n hc dX6_weighFits_152 rfl rfl ?_
    obtain ⟨g32, hw⟩ := hw
    refine V.ald hc ak_33 g32 dX6_weighFits_153 ?_
    refine V.aload_n (t := 6) hc dX6_weighFits_154 rfl rfl ?_
    refine V.gR hc gR_X6_65 (i' := o) rfl dX6_weighFits_155 ?_
    refine V.iload hc dX6_weighFits_158 rfl ?_
    obtain ⟨g33, hw⟩ := hw
    refine V.ald hc ak_33 g33 dX6_weighFits_160 ?_
    obtain ⟨q39, hw⟩ := hw
    have kJ42 : ∀ t38 : Int, ((h29 33 o (h29 37 1 l1) ≤ h29 33 o l1 → t38 = h29 33 o (h29 37 1 l1)) ∧ (¬ h29 33 o (h29 37 1 l1) ≤ h29 33 o l1 → t38 = h29 33 o l1)) → V G p l e (rmD 2 0) s m args below meth c (MQ below (QV G P) args s 0 0 (va_Aof G)) 5 180 [(16, o), (0, l1), (1, 0), (1, 0), (1, 0)] [(0, t38), (0, h29 37 1 l1), (43, o)] h29 0 := by
      intro t38 he
      replace hw := hw t38 he
      clear he
      obtain ⟨g41, hw⟩ := hw
      refine V.ast hc ak_33 g41 dX6_weighFits_180 (fun h40 e => ?_)
      replace hw := hw h40 e
      clear e
      exact tX6_weighFits_181 hc hr (fun y1 hy hw => by exact hK47 _ _ hw) hw
    obtain ⟨g34, g35, q43, q44⟩ := q39
    refine V.icmp_ge hc (tgt := 173) dX6_weighFits_161 (by decide) g34 g35 (fun c45 => ?_) (fun c45 => ?_)
    · have q46 := q43 c45
      have g36 := q46
      refine V.aload_n (t := 6) hc dX6_weighFits_173 rfl rfl ?_
      refine V.gR hc gR_X6_65 (i' := o) rfl dX6_weighFits_174 ?_
      refine V.iload hc dX6_weighFits_177 rfl ?_
      refine V.ald hc ak_33 g36 dX6_weighFits_179 ?_
      refine V.drop (lo' := [(16, o), (0, l1), (1, 0), (1, 0), (1, 0)]) ⟨Or.inr rfl, Or.inr rfl, Or.inr rfl, Or.inr rfl, Or.inl rfl, trivial⟩ ?_
      exact kJ42 _ ⟨fun _ => rfl, (fun q => absurd c45 q)⟩
    · have q47 := q44 c45
      have g37 := q47
      refine V.aload_n (t := 6) hc dX6_weighFits_164 rfl rfl ?_
      refine V.gR hc gR_X6_65 (i' := o) rfl dX6_weighFits_165 ?_
      refine V.iload_n hc dX6_weighFits_168 rfl rfl ?_
      refine V.ald hc ak_33 g37 dX6_weighFits_169 ?_
      refine V.goto hc (tgt := 180) dX6_weighFits_170 (by decide) ?_
      refine V.drop (lo' := [(16, o), (0, l1), (1, 0), (1, 0), (1, 0)]) ⟨Or.inr rfl, Or.inr rfl, Or.inr rfl, Or.inr rfl, Or.inl rfl, trivial⟩ ?_
      exact kJ42 _ ⟨(fun q => absurd q c45), fun _ => rfl⟩
  obtain ⟨g24, g25, q49⟩ := q28
  refine V.icmp_le hc (tgt := 124) dX6_weighFits_117 (by decide) g24 g25 (fun c50 => ?_) (fun c50 => ?_)
  · have q51 := q49 c50
    have g26 := q51
    refine V.aload_n (t := 6) hc dX6_weighFits_124 rfl rfl ?_
    refine V.gR hc gR_X6_65 (i' := o) rfl dX6_weighFits_125 ?_
    refine V.iload_n hc dX6_weighFits_128 rfl rfl ?_
    refine V.ald hc ak_33 g26 dX6_weighFits_129 ?_
    refine V.drop (lo' := [(16, o), (0, l1), (1, 0), (1, 0), (1, 0)]) ⟨Or.inr rfl, Or.inr rfl, Or.inr rfl, Or.inl rfl, Or.inr rfl, trivial⟩ ?_
    exact kJ48 _ ⟨fun _ => rfl, (fun q => absurd c50 q)⟩
  · refine V.iload_n hc dX6_weighFits_120 rfl rfl ?_
    refine V.goto hc (tgt := 130) dX6_weighFits_121 (by decide) ?_
    refine V.drop (lo' := [(16, o), (0, l1), (1, 0), (1, 0), (1, 0)]) ⟨Or.inr rfl, Or.inr rfl, Or.inr rfl, Or.inl rfl, Or.inr rfl, trivial⟩ ?_
    exact kJ48 _ ⟨(fun q => absurd q c50), fun _ => rfl⟩
theorem tX6_weighFits_47 {G : GG} {p : Program} {l : Launch} {e : Jvm.Env} {s : State} {m : MethodId} {args : Array Value} {below : List Frame} {meth : Method} {c : Code} {P : HP → Prop} (hc : VC G p (rmD 2 0) s m args meth c RX6 cX6_weighFits 5 2) (hr : meth.sig.returnType = none) {o : Int} {K187 : HP → Prop} (hK187 : ∀  (h : HP), K187  h → V G p l e (rmD 2 0) s m args below meth c (MQ below (QV G P) args s 0 0 (va_Aof G)) 5 187 [(1, 0), (1, 0), (1, 0), (1, 0), (1, 0)] [] h 0) : ∀ (f : Nat) (l1 : Int) (h : HP), wX6_weighFits_47 o K187 f l1 h → V G p l e (rmD 2 0) s m args below meth c (MQ below (QV G P) args s 0 0 (va_Aof G)) 5 47 [(16, o), (0, l1), (1, 0), (1, 0), (1, 0)] [] h 0 := by
  intro f
  induction f with
  | zero =>
    intro l1 h hw
    exact hw.elim
  | succ f ih =>
    intro l1 h hw
    refine V.iload_n hc dX6_weighFits_47 rfl rfl ?_
    obtain ⟨g14, hw⟩ := hw
    refine V.if_lt hc (tgt := 187) dX6_weighFits_48 (by decide) g14 (fun c15 => ?_) (fun c15 => ?_)
    · replace hw := hw.1 c15
      refine V.drop (lo' := [(1, 0), (1, 0), (1, 0), (1, 0), (1, 0)]) ⟨Or.inl rfl, Or.inl rfl, Or.inr rfl, Or.inr rfl, Or.inr rfl, trivial⟩ ?_
      exact hK187 _ hw
    · replace hw := hw.2 c15
      refine V.aload_n (t := 6) hc dX6_weighFits_51 rfl rfl ?_
      refine V.gR hc gR_X6_46 (i' := o) rfl dX6_weighFits_52 ?_
      refine V.iload_n hc dX6_weighFits_55 rfl rfl ?_
      obtain ⟨g16, hw⟩ := hw
      refine V.ald hc ak_29 g16 dX6_weighFits_56 ?_
      obtain ⟨g17, hw⟩ := hw
      refine V.if_le hc (tgt := 181) dX6_weighFits_57 (by decide) g17 (fun c18 => ?_) (fun c18 => ?_)
      · replace hw := hw.1 c18
        exact tX6_weighFits_181 hc hr (fun y1 hy hw => by exact ih _ _ hw) hw
      · replace hw := hw.2 c18
        refine V.iload_n hc dX6_weighFits_60 rfl rfl ?_
        refine V.iconst hc dX6_weighFits_61 ?_
        refine V.imul hc dX6_weighFits_62 ?_
        refine V.iconst hc dX6_weighFits_63 ?_
        refine V.iadd hc dX6_weighFits_64 ?_
        refine V.istore_n hc dX6_weighFits_65 rfl rfl (lo' := [(16, o), (0, l1), (0, (l1 * 3) + 2), (1, 0), (1, 0)]) rfl ?_
        refine V.aload_n (t := 6) hc dX6_weighFits_66 rfl rfl ?_
        refine V.gR hc gR_X6_61 (i' := o) rfl dX6_weighFits_67 ?_
        refine V.iload_n hc dX6_weighFits_70 rfl rfl ?_
        refine V.callVI hc (qX1_has G l _ _ _ _ hw) mo_X1_has ml_X6_102 (by rfl) rfl rfl (as := [(0, (l1 * 3) + 2)]) rfl rfl rfl rfl rfl ⟨Nat.zero_le _, Nat.zero_le _⟩ dX6_weighFits_71 (fun x20 h19 hw => ?_)
        obtain ⟨g21, hw⟩ := hw
        refine V.if_eq hc (tgt := 103) dX6_weighFits_74 (by decide) g21 (fun c22 => ?_) (fun c22 => ?_)
        · replace hw := hw.1 c22
          refine V.iconst hc dX6_weighFits_103 ?_
          refine V.drop (lo' := [(16, o), (0, l1), (1, 0), (1, 0), (1, 0)]) ⟨Or.inr rfl, Or.inr rfl, Or.inl rfl, Or.inr rfl, Or.inr rfl, trivial⟩ ?_
          exact tX6_weighFits_104 hc hr (fun y1 hy hw => by exact ih _ _ hw) hw
        · replace hw := hw.2 c22
          refine V.aload_n (t := 6) hc dX6_weighFits_77 rfl rfl ?_
          refine V.gR hc gR_X6_61 (i' := o) rfl dX6_weighFits_78 ?_
          refine V.iload_n hc dX6_weighFits_81 rfl rfl ?_
          refine V.aload_n (t := 6) hc dX6_weighFits_82 rfl rfl ?_
          refine V.gR hc gR_X6_30 (i' := o) rfl dX6_weighFits_83 ?_
          refine V.iload_n hc dX6_weighFits_86 rfl rfl ?_
          obtain ⟨g52, hw⟩ := hw
          refine V.ald hc ak_24 g52 dX6_weighFits_87 ?_
          refine V.aload_n (t := 6) hc dX6_weighFits_88 rfl rfl ?_
          refine V.gR hc gR_X6_61 (i' := o) rfl dX6_weighFits_89 ?_
          refine V.gR hc gR_X6_123 (i' := o) rfl dX6_weighFits_92 ?_
          refine V.iload_n hc dX6_weighFits_95 rfl rfl ?_
          obtain ⟨g53, hw⟩ := hw
          refine V.ald hc ak_13 g53 dX6_weighFits_96 ?_
          refine V.callVI hc (qX1_reached G l _ _ _ _ _ _ hw) mo_X1_reached ml_X6_129 (by rfl) rfl rfl (as := [(0, (l1 * 3) + 2), (0, h19 24 o l1), (0, h19 13 o ((l1 * 3) + 2))]) rfl rfl rfl rfl rfl ⟨Nat.zero_le _, Nat.zero_le _⟩ dX6_weighFits_97 (fun x55 h54 hw => ?_)
          refine V.goto hc (tgt := 104) dX6_weighFits_100 (by decide) ?_
          refine V.drop (lo' := [(16, o), (0, l1), (1, 0), (1, 0), (1, 0)]) ⟨Or.inr rfl, Or.inr rfl, Or.inl rfl, Or.inr rfl, Or.inr rfl, trivial⟩ ?_
          exact tX6_weighFits_104 hc hr (fun y1 hy hw => by exact ih _ _ hw) hw
theorem qX6_weighFits (G : GG) (l : Launch) (o : Int) (h : HP) (P : HP → Prop) (hw : wX6_weighFits o h P) : CnV l G yX6_weighFits cX6_weighFits 5 2 [(16, o)] h P := by
  refine CnV.of (lo := [(16, o), (1, 0), (1, 0), (1, 0), (1, 0)]) (by decide) rfl rfl rfl ?_
  intro p e s m args below meth c hc hr
  have hc : VC G p (rmD 2 0) s m args meth c RX6 cX6_weighFits 5 2 := hc
  refine V.iconst hc dX6_weighFits_0 ?_
  refine V.istore_n hc dX6_weighFits_1 rfl rfl (lo' := [(16, o), (0, 0), (1, 0), (1, 0), (1, 0)]) rfl ?_
  obtain ⟨f12, hw⟩ := hw
  refine tX6_weighFits_2 hc hr ?_ f12 _ _ hw
  · intro h13 hw
    refine V.aload_n (t := 6) hc dX6_weighFits_37 rfl rfl ?_
    refine V.gR hc gR_X6_68 (i' := 1) rfl dX6_weighFits_38 ?_
    refine V.gI hc gI_X6_96 rfl dX6_weighFits_41 ?_
    refine V.iconst hc dX6_weighFits_44 ?_
    refine V.isub hc dX6_weighFits_45 ?_
    refine V.istore_n hc dX6_weighFits_46 rfl rfl (lo' := [(16, o), (0, (h13 8 1 0) - 1), (1, 0), (1, 0), (1, 0)]) rfl ?_
    obtain ⟨f56, hw⟩ := hw
    refine tX6_weighFits_47 hc hr ?_ f56 _ _ hw
    · intro h57 hw
      exact V.vret hc hr dX6_weighFits_187 hw
theorem tX6_pickByShare_32 {G : GG} {p : Program} {l : Launch} {e : Jvm.Env} {s : State} {m : MethodId} {args : Array Value} {below : List Frame} {meth : Method} {c : Code} {P : Int → HP → Prop} (hc : VC G p (rmD 3 0) s m args meth c RX6 cX6_pickByShare 6 3) (hr : meth.sig.returnType = some .int) {o : Int} {l1 : Int} {l2 : Int} {h : HP} {K117 : Int → Prop} (hK117 : ∀ (x3 : Int), K117 x3 → V G p l e (rmD 3 0) s m args below meth c (MQ below (QI G P) args s 0 0 (va_Aof G)) 6 117 [(16, o), (1, 0), (0, l2), (0, x3), (1, 0), (1, 0)] [] h 0) : ∀ (f : Nat) (l3 : Int) (l4 : Int), wX6_pickByShare_32 o l1 l2 h K117 f l3 l4 → V G p l e (rmD 3 0) s m args below meth c (MQ below (QI G P) args s 0 0 (va_Aof G)) 6 32 [(16, o), (0, l1), (0, l2), (0, l3), (0, l4), (1, 0)] [] h 0 := by
  intro f
  induction f with
  | zero =>
    intro l3 l4 hw
    exact hw.elim
  | succ f ih =>
    intro l3 l4 hw
    refine V.iload hc dX6_pickByShare_32 rfl ?_
    refine V.aload_n (t := 6) hc dX6_pickByShare_34 rfl rfl ?_
    refine V.gR hc gR_X6_68 (i' := 1) rfl dX6_pickByShare_35 ?_
    refine V.gR hc gR_X6_117 (i' := 1) rfl dX6_pickByShare_38 ?_
    refine V.iload_n hc dX6_pickByShare_41 rfl rfl ?_
    obtain ⟨g7, hw⟩ := hw
    refine V.ald hc ak_38 g7 dX6_pickByShare_42 ?_
    obtain ⟨g8, hw⟩ := hw
    obtain ⟨g9, hw⟩ := hw
    refine V.icmp_ge hc (tgt := 117) dX6_pickByShare_43 (by decide) g8 g9 (fun c10 => ?_) (fun c10 => ?_)
    · replace hw := hw.1 c10
      refine V.drop (lo' := [(16, o), (1, 0), (0, l2), (0, l3), (1, 0), (1, 0)]) ⟨Or.inr rfl, Or.inl rfl, Or.inr rfl, Or.inr rfl, Or.inl rfl, Or.inr rfl, trivial⟩ ?_
      exact hK117 _ hw
    · replace hw := hw.2 c10
      refine V.aload_n (t := 6) hc dX6_pickByShare_46 rfl rfl ?_
      refine V.gR hc gR_X6_68 (i' := 1) rfl dX6_pickByShare_47 ?_
      refine V.gR hc gR_X6_120 (i' := 1) rfl dX6_pickByShare_50 ?_
      refine V.iload_n hc dX6_pickByShare_53 rfl rfl ?_
      refine V.bipush hc dX6_pickByShare_54 (by decide) ?_
      refine V.imul hc dX6_pickByShare_56 ?_
      refine V.iload hc dX6_pickByShare_57 rfl ?_
      refine V.iadd hc dX6_pickByShare_59 ?_
      obtain ⟨g11, hw⟩ := hw
      refine V.ald hc ak_39 g11 dX6_pickByShare_60 ?_
      refine V.istore hc dX6_pickByShare_61 rfl (lo' := [(16, o), (0, l1), (0, l2), (0, l3), (0, l4), (0, h 39 1 ((l1 * 12) + l4))]) rfl ?_
      refine V.aload_n (t := 6) hc dX6_pickByShare_63 rfl rfl ?_
      refine V.gR hc gR_X6_46 (i' := o) rfl dX6_pickByShare_64 ?_
      refine V.iload hc dX6_pickByShare_67 rfl ?_
      obtain ⟨g12, hw⟩ := hw
      refine V.ald hc ak_29 g12 dX6_pickByShare_69 ?_
      obtain ⟨q23, hw⟩ := hw
      have kJ24 : ∀ t22 : Int, ((h 29 o (h 39 1 ((l1 * 12) + l4)) ≤ 0 → t22 = l3) ∧ (¬ h 29 o (h 39 1 ((l1 * 12) + l4)) ≤ 0 → ((h 6 o 1 < h 33 o (h 39 1 ((l1 * 12) + l4)) → t22 = l3) ∧ (¬ h 6 o 1 < h 33 o (h 39 1 ((l1 * 12) + l4)) → ((l3 = (-1) → t22 = h 39 1 ((l1 * 12) + l4)) ∧ (¬ l3 = (-1) → ((h 26 o l3 ≤ h 26 o (h 39 1 ((l1 * 12) + l4)) → t22 = l3) ∧ (¬ h 26 o l3 ≤ h 26 o (h 39 1 ((l1 * 12) + l4)) → t22 = h 39 1 ((l1 * 12) + l4))))))))) → V G p l e (rmD 3 0) s m args below meth c (MQ below (QI G P) args s 0 0 (va_Aof G)) 6 111 [(16, o), (0, l1), (0, l2), (0, t22), (0, l4), (1, 0)] [] h 0 := by
        intro t22 he
        replace hw := hw t22 he
        clear he
        refine V.iinc hc dX6_pickByShare_111 rfl rfl (lo' := [(16, o), (0, l1), (0, l2), (0, t22), (0, l4 + 1), (1, 0)]) rfl ?_
        refine V.goto hc (tgt := 32) dX6_pickByShare_114 (by decide) ?_
        exact ih _ _ hw
      obtain ⟨g13, q25⟩ := q23
      refine V.if_le hc (tgt := 111) dX6_pickByShare_70 (by decide) g13 (fun c26 => ?_) (fun c26 => ?_)
      · refine V.drop (lo' := [(16, o), (0, l1), (0, l2), (0, l3), (0, l4), (1, 0)]) ⟨Or.inr rfl, Or.inr rfl, Or.inr rfl, Or.inr rfl, Or.inr rfl, Or.inl rfl, trivial⟩ ?_
        exact kJ24 _ ⟨fun _ => rfl, (fun q => absurd c26 q)⟩
      · have q27 := q25 c26
        obtain ⟨g14, g15, g16, q28⟩ := q27
        refine V.aload_n (t := 6) hc dX6_pickByShare_73 rfl rfl ?_
        refine V.gR hc gR_X6_65 (i' := o) rfl dX6_pickByShare_74 ?_
        refine V.iload hc dX6_pickByShare_77 rfl ?_
        refine V.ald hc ak_33 g14 dX6_pickByShare_79 ?_
        refine V.aload_n (t := 6) hc dX6_pickByShare_80 rfl rfl ?_
        refine V.gI hc gI_X6_9 rfl dX6_pickByShare_81 ?_
        refine V.icmp_gt hc (tgt := 111) dX6_pickByShare_84 (by decide) g15 g16 (fun c29 => ?_) (fun c29 => ?_)
        · refine V.drop (lo' := [(16, o), (0, l1), (0, l2), (0, l3), (0, l4), (1, 0)]) ⟨Or.inr rfl, Or.inr rfl, Or.inr rfl, Or.inr rfl, Or.inr rfl, Or.inl rfl, trivial⟩ ?_
          exact kJ24 _ ⟨(fun q => absurd q c26), fun _ => ⟨fun _ => rfl, (fun q => absurd c29 q)⟩⟩
        · have q30 := q28 c29
          obtain ⟨g17, q31⟩ := q30
          refine V.iload_n hc dX6_pickByShare_87 rfl rfl ?_
          refine V.iconst hc dX6_pickByShare_88 ?_
          refine V.icmp_eq hc (tgt := 108) dX6_pickByShare_89 (by decide) g17 (by omega) (fun c32 => ?_) (fun c32 => ?_)
          · refine V.iload hc dX6_pickByShare_108 rfl ?_
            refine V.istore_n hc dX6_pickByShare_110 rfl rfl (lo' := [(16, o), (0, l1), (0, l2), (0, h 39 1 ((l1 * 12) + l4)), (0, l4), (0, h 39 1 ((l1 * 12) + l4))]) rfl ?_
            refine V.drop (lo' := [(16, o), (0, l1), (0, l2), (0, h 39 1 ((l1 * 12) + l4)), (0, l4), (1, 0)]) ⟨Or.inr rfl, Or.inr rfl, Or.inr rfl, Or.inr rfl, Or.inr rfl, Or.inl rfl, trivial⟩ ?_
            exact kJ24 _ ⟨(fun q => absurd q c26), fun _ => ⟨(fun q => absurd q c29), fun _ => ⟨fun _ => rfl, (fun q => absurd c32 q)⟩⟩⟩
          · have q33 := q31 c32
            obtain ⟨g18, g19, g20, g21⟩ := q33
            refine V.aload_n (t := 6) hc dX6_pickByShare_92 rfl rfl ?_
            refine V.gR hc gR_X6_37 (i' := o) rfl dX6_pickByShare_93 ?_
            refine V.iload hc dX6_pickByShare_96 rfl ?_
            refine V.ald hc ak_26 g18 dX6_pickByShare_98 ?_
            refine V.aload_n (t := 6) hc dX6_pickByShare_99 rfl rfl ?_
            refine V.gR hc gR_X6_37 (i' := o) rfl dX6_pickByShare_100 ?_
            refine V.iload_n hc dX6_pickByShare_103 rfl rfl ?_
            refine V.ald hc ak_26 g19 dX6_pickByShare_104 ?_
            refine V.icmp_ge hc (tgt := 111) dX6_pickByShare_105 (by decide) g20 g21 (fun c34 => ?_) (fun c34 => ?_)
            · refine V.drop (lo' := [(16, o), (0, l1), (0, l2), (0, l3), (0, l4), (1, 0)]) ⟨Or.inr rfl, Or.inr rfl, Or.inr rfl, Or.inr rfl, Or.inr rfl, Or.inl rfl, trivial⟩ ?_
              exact kJ24 _ ⟨(fun q => absurd q c26), fun _ => ⟨(fun q => absurd q c29), fun _ => ⟨(fun q => absurd q c32), fun _ => ⟨fun _ => rfl, (fun q => absurd c34 q)⟩⟩⟩⟩
            · refine V.iload hc dX6_pickByShare_108 rfl ?_
              refine V.istore_n hc dX6_pickByShare_110 rfl rfl (lo' := [(16, o), (0, l1), (0, l2), (0, h 39 1 ((l1 * 12) + l4)), (0, l4), (0, h 39 1 ((l1 * 12) + l4))]) rfl ?_
              refine V.drop (lo' := [(16, o), (0, l1), (0, l2), (0, h 39 1 ((l1 * 12) + l4)), (0, l4), (1, 0)]) ⟨Or.inr rfl, Or.inr rfl, Or.inr rfl, Or.inr rfl, Or.inr rfl, Or.inl rfl, trivial⟩ ?_
              exact kJ24 _ ⟨(fun q => absurd q c26), fun _ => ⟨(fun q => absurd q c29), fun _ => ⟨(fun q => absurd q c32), fun _ => ⟨(fun q => absurd q c34), fun _ => rfl⟩⟩⟩⟩
theorem tX6_pickByShare_9 {G : GG} {p : Program} {l : Launch} {e : Jvm.Env} {s : State} {m : MethodId} {args : Array Value} {below : List Frame} {meth : Method} {c : Code} {P : Int → HP → Prop} (hc : VC G p (rmD 3 0) s m args meth c RX6 cX6_pickByShare 6 3) (hr : meth.sig.returnType = some .int) {o : Int} {h : HP} {K132 : Int → Prop} {K122 : Prop} (hK132 : ∀ (x1 : Int), K132 x1 → V G p l e (rmD 3 0) s m args below meth c (MQ below (QI G P) args s 0 0 (va_Aof G)) 6 132 [(1, 0), (0, x1), (1, 0), (1, 0), (1, 0), (1, 0)] [] h 0) (hK122 : K122 → V G p l e (rmD 3 0) s m args below meth c (MQ below (QI G P) args s 0 0 (va_Aof G)) 6 122 [(1, 0), (1, 0), (1, 0), (1, 0), (1, 0), (1, 0)] [] h 0) : ∀ (f : Nat) (l1 : Int) (l2 : Int), wX6_pickByShare_9 o h K132 K122 f l1 l2 → V G p l e (rmD 3 0) s m args below meth c (MQ below (QI G P) args s 0 0 (va_Aof G)) 6 9 [(16, o), (0, l1), (0, l2), (1, 0), (1, 0), (1, 0)] [] h 0 := by
  intro f
  induction f with
  | zero =>
    intro l1 l2 hw
    exact hw.elim
  | succ f ih =>
    intro l1 l2 hw
    refine V.iload_n hc dX6_pickByShare_9 rfl rfl ?_
    refine V.bipush hc dX6_pickByShare_10 (by decide) ?_
    obtain ⟨g2, hw⟩ := hw
    refine V.icmp_gt hc (tgt := 132) dX6_pickByShare_12 (by decide) g2 (by omega) (fun c3 => ?_) (fun c3 => ?_)
    · replace hw := hw.1 c3
      refine V.drop (lo' := [(1, 0), (0, l1), (1, 0), (1, 0), (1, 0), (1, 0)]) ⟨Or.inl rfl, Or.inr rfl, Or.inl rfl, Or.inr rfl, Or.inr rfl, Or.inr rfl, trivial⟩ ?_
      exact hK132 _ hw
    · replace hw := hw.2 c3
      refine V.aload_n (t := 6) hc dX6_pickByShare_15 rfl rfl ?_
      refine V.gR hc gR_X6_68 (i' := 1) rfl dX6_pickByShare_16 ?_
      refine V.gR hc gR_X6_117 (i' := 1) rfl dX6_pickByShare_19 ?_
      refine V.iload_n hc dX6_pickByShare_22 rfl rfl ?_
      obtain ⟨g4, hw⟩ := hw
      refine V.ald hc ak_38 g4 dX6_pickByShare_23 ?_
      obtain ⟨g5, hw⟩ := hw
      refine V.if_le hc (tgt := 132) dX6_pickByShare_24 (by decide) g5 (fun c6 => ?_) (fun c6 => ?_)
      · replace hw := hw.1 c6
        refine V.drop (lo' := [(1, 0), (0, l1), (1, 0), (1, 0), (1, 0), (1, 0)]) ⟨Or.inl rfl, Or.inr rfl, Or.inl rfl, Or.inr rfl, Or.inr rfl, Or.inr rfl, trivial⟩ ?_
        exact hK132 _ hw
      · replace hw := hw.2 c6
        refine V.iconst hc dX6_pickByShare_27 ?_
        refine V.istore_n hc dX6_pickByShare_28 rfl rfl (lo' := [(16, o), (0, l1), (0, l2), (0, (-1)), (1, 0), (1, 0)]) rfl ?_
        refine V.iconst hc dX6_pickByShare_29 ?_
        refine V.istore hc dX6_pickByShare_30 rfl (lo' := [(16, o), (0, l1), (0, l2), (0, (-1)), (0, 0), (1, 0)]) rfl ?_
        obtain ⟨f35, hw⟩ := hw
        refine tX6_pickByShare_32 hc hr ?_ f35 _ _ hw
        · intro l36 hw
          refine V.iload_n hc dX6_pickByShare_117 rfl rfl ?_
          refine V.iconst hc dX6_pickByShare_118 ?_
          obtain ⟨g37, hw⟩ := hw
          refine V.icmp_ne hc (tgt := 124) dX6_pickByShare_119 (by decide) g37 (by omega) (fun c38 => ?_) (fun c38 => ?_)
          · replace hw := hw.1 c38
            refine V.iload_n hc dX6_pickByShare_124 rfl rfl ?_
            refine V.istore_n hc dX6_pickByShare_125 rfl rfl (lo' := [(16, o), (0, l36), (0, l2), (0, l36), (1, 0), (1, 0)]) rfl ?_
            refine V.iinc hc dX6_pickByShare_126 rfl rfl (lo' := [(16, o), (0, l36), (0, l2 + 1), (0, l36), (1, 0), (1, 0)]) rfl ?_
            refine V.goto hc (tgt := 9) dX6_pickByShare_129 (by decide) ?_
            refine V.drop (lo' := [(16, o), (0, l36), (0, l2 + 1), (1, 0), (1, 0), (1, 0)]) ⟨Or.inr rfl, Or.inr rfl, Or.inr rfl, Or.inl rfl, Or.inr rfl, Or.inr rfl, trivial⟩ ?_
            exact ih _ _ hw
          · replace hw := hw.2 c38
            refine V.drop (lo' := [(1, 0), (1, 0), (1, 0), (1, 0), (1, 0), (1, 0)]) ⟨Or.inl rfl, Or.inr rfl, Or.inl rfl, Or.inl rfl, Or.inr rfl, Or.inr rfl, trivial⟩ ?_
            exact hK122 hw
theorem qX6_pickByShare (G : GG) (l : Launch) (o : Int) (h : HP) (P : Int → HP → Prop) (hw : wX6_pickByShare o h P) : CnI l G yX6_pickByShare cX6_pickByShare 6 (some .int) 3 [(16, o)] h P := by
  refine CnI.of (lo := [(16, o), (1, 0), (1, 0), (1, 0), (1, 0), (1, 0)]) (by decide) rfl rfl rfl ?_
  intro p e s m args below meth c hc hr
  have hc : VC G p (rmD 3 0) s m args meth c RX6 cX6_pickByShare 6 3 := hc
  refine V.aload_n (t := 6) hc dX6_pickByShare_0 rfl rfl ?_
  refine V.callVV hc (qX6_weighFits G l _ _ _ hw) mo_X6_weighFits ml_X6_133 (by rfl) rfl rfl (as := []) rfl rfl rfl rfl rfl ⟨Nat.zero_le _, Nat.zero_le _⟩ dX6_pickByShare_1 (fun h1 hw => ?_)
  refine V.bipush hc dX6_pickByShare_4 (by decide) ?_
  refine V.istore_n hc dX6_pickByShare_6 rfl rfl (lo' := [(16, o), (0, 12), (1, 0), (1, 0), (1, 0), (1, 0)]) rfl ?_
  refine V.iconst hc dX6_pickByShare_7 ?_
  refine V.istore_n hc dX6_pickByShare_8 rfl rfl (lo' := [(16, o), (0, 12), (0, 0), (1, 0), (1, 0), (1, 0)]) rfl ?_
  obtain ⟨f39, hw⟩ := hw
  refine tX6_pickByShare_9 hc hr ?_ ?_ f39 _ _ hw
  · intro l40 hw
    refine V.iload_n hc dX6_pickByShare_132 rfl rfl ?_
    refine V.bipush hc dX6_pickByShare_133 (by decide) ?_
    obtain ⟨q43, hw⟩ := hw
    have kJ44 : ∀ t42 : Int, ((¬ l40 = 12 → t42 = l40) ∧ (l40 = 12 → t42 = (-1))) → V G p l e (rmD 3 0) s m args below meth c (MQ below (QI G P) args s 0 0 (va_Aof G)) 6 143 [(1, 0), (1, 0), (1, 0), (1, 0), (1, 0), (1, 0)] [(0, t42)] h1 0 := by
      intro t42 he
      replace hw := hw t42 he
      clear he
      exact V.iret hc hr dX6_pickByShare_143 hw
    have g41 := q43
    refine V.icmp_ne hc (tgt := 142) dX6_pickByShare_135 (by decide) g41 (by omega) (fun c45 => ?_) (fun c45 => ?_)
    · refine V.iload_n hc dX6_pickByShare_142 rfl rfl ?_
      refine V.drop (lo' := [(1, 0), (1, 0), (1, 0), (1, 0), (1, 0), (1, 0)]) ⟨Or.inr rfl, Or.inl rfl, Or.inr rfl, Or.inr rfl, Or.inr rfl, Or.inr rfl, trivial⟩ ?_
      exact kJ44 _ ⟨fun _ => rfl, (fun q => absurd q c45)⟩
    · refine V.iconst hc dX6_pickByShare_138 ?_
      refine V.goto hc (tgt := 143) dX6_pickByShare_139 (by decide) ?_
      refine V.drop (lo' := [(1, 0), (1, 0), (1, 0), (1, 0), (1, 0), (1, 0)]) ⟨Or.inr rfl, Or.inl rfl, Or.inr rfl, Or.inr rfl, Or.inr rfl, Or.inr rfl, trivial⟩ ?_
      exact kJ44 _ ⟨(fun q => absurd c45 q), fun _ => rfl⟩
  · intro hw
    refine V.iconst hc dX6_pickByShare_122 ?_
    exact V.iret hc hr dX6_pickByShare_123 hw
theorem tX6_advance_102 {G : GG} {p : Program} {l : Launch} {e : Jvm.Env} {s : State} {m : MethodId} {args : Array Value} {below : List Frame} {meth : Method} {c : Code} {P : HP → Prop} (hc : VC G p (rmD 4 0) s m args meth c RX6 cX6_advance 4 4) (hr : meth.sig.returnType = none) {o : Int} {a1 : Int} {l3 : Int} {h : HP} {K46 : Int → HP → Prop} (hK46 : ∀ (x3 : Int) (h : HP), K46 x3 h → V G p l e (rmD 4 0) s m args below meth c (MQ below (QV G P) args s 0 0 (va_Aof G)) 4 46 [(16, o), (1, 0), (1, 0), (0, x3)] [] h 0) (hw : wX6_advance_102 o a1 l3 K46 h) : V G p l e (rmD 4 0) s m args below meth c (MQ below (QV G P) args s 0 0 (va_Aof G)) 4 102 [(16, o), (1, 0), (1, 0), (0, l3)] [] h 0 := by
  refine V.iinc hc dX6_advance_102 rfl rfl (lo' := [(16, o), (1, 0), (1, 0), (0, l3 + 1)]) rfl ?_
  refine V.goto hc (tgt := 46) dX6_advance_105 (by decide) ?_
  exact hK46 _ _ hw
theorem tX6_advance_46 {G : GG} {p : Program} {l : Launch} {e : Jvm.Env} {s : State} {m : MethodId} {args : Array Value} {below : List Frame} {meth : Method} {c : Code} {P : HP → Prop} (hc : VC G p (rmD 4 0) s m args meth c RX6 cX6_advance 4 4) (hr : meth.sig.returnType = none) {o : Int} {a1 : Int} {K108 : HP → Prop} (hK108 : ∀  (h : HP), K108  h → V G p l e (rmD 4 0) s m args below meth c (MQ below (QV G P) args s 0 0 (va_Aof G)) 4 108 [(16, o), (1, 0), (1, 0), (1, 0)] [] h 0) : ∀ (f : Nat) (l3 : Int) (h : HP), wX6_advance_46 o a1 K108 f l3 h → V G p l e (rmD 4 0) s m args below meth c (MQ below (QV G P) args s 0 0 (va_Aof G)) 4 46 [(16, o), (1, 0), (1, 0), (0, l3)] [] h 0 := by
  intro f
  induction f with
  | zero =>
    intro l3 h hw
    exact hw.elim
  | succ f ih =>
    intro l3 h hw
    refine V.iload_n hc dX6_advance_46 rfl rfl ?_
    refine V.aload_n (t := 6) hc dX6_advance_47 rfl rfl ?_
    refine V.gR hc gR_X6_68 (i' := 1) rfl dX6_advance_48 ?_
    refine V.gI hc gI_X6_99 rfl dX6_advance_51 ?_
    obtain ⟨g12, hw⟩ := hw
    obtain ⟨g13, hw⟩ := hw
    refine V.icmp_ge hc (tgt := 108) dX6_advance_54 (by decide) g12 g13 (fun c14 => ?_) (fun c14 => ?_)
    · replace hw := hw.1 c14
      refine V.drop (lo' := [(16, o), (1, 0), (1, 0), (1, 0)]) ⟨Or.inr rfl, Or.inr rfl, Or.inr rfl, Or.inl rfl, trivial⟩ ?_
      exact hK108 _ hw
    · replace hw := hw.2 c14
      refine V.aload_n (t := 6) hc dX6_advance_57 rfl rfl ?_
      refine V.gI hc gI_X6_27 rfl dX6_advance_58 ?_
      refine V.iload_n hc dX6_advance_61 rfl rfl ?_
      refine V.ishr hc dX6_advance_62 ?_
      refine V.iconst hc dX6_advance_63 ?_
      refine V.iand hc dX6_advance_64 ?_
      obtain ⟨g15, hw⟩ := hw
      refine V.if_ne hc (tgt := 102) dX6_advance_65 (by decide) g15 (fun c16 => ?_) (fun c16 => ?_)
      · replace hw := hw.1 c16
        exact tX6_advance_102 hc hr (fun y3 hy hw => by exact ih _ _ hw) hw
      · replace hw := hw.2 c16
        refine V.aload_n (t := 6) hc dX6_advance_68 rfl rfl ?_
        refine V.gR hc gR_X6_68 (i' := 1) rfl dX6_advance_69 ?_
        refine V.iload_n hc dX6_advance_72 rfl rfl ?_
        refine V.aload_n (t := 6) hc dX6_advance_73 rfl rfl ?_
        refine V.gI hc gI_X6_9 rfl dX6_advance_74 ?_
        refine V.callVI hc (qX8_untilTold G l _ _ _ _ _ hw) mo_X8_untilTold ml_X6_155 (by rfl) rfl rfl (as := [(0, l3), (0, h 6 o 1)]) rfl rfl rfl rfl rfl ⟨Nat.zero_le _, Nat.zero_le _⟩ dX6_advance_77 (fun x18 h17 hw => ?_)
        obtain ⟨g19, hw⟩ := hw
        refine V.if_ne hc (tgt := 102) dX6_advance_80 (by decide) g19 (fun c20 => ?_) (fun c20 => ?_)
        · replace hw := hw.1 c20
          exact tX6_advance_102 hc hr (fun y3 hy hw => by exact ih _ _ hw) hw
        · replace hw := hw.2 c20
          refine V.aload_n (t := 6) hc dX6_advance_83 rfl rfl ?_
          refine V.aload_n (t := 6) hc dX6_advance_84 rfl rfl ?_
          refine V.gR hc gR_X6_68 (i' := 1) rfl dX6_advance_85 ?_
          refine V.gR hc gR_X6_158 (i' := 1) rfl dX6_advance_88 ?_
          refine V.iload_n hc dX6_advance_91 rfl rfl ?_
          obtain ⟨g21, hw⟩ := hw
          refine V.ald hc ak_40 g21 dX6_advance_92 ?_
          refine V.aload_n (t := 6) hc dX6_advance_93 rfl rfl ?_
          refine V.gR hc gR_X6_55 (i' := o) rfl dX6_advance_94 ?_
          refine V.iload_n hc dX6_advance_97 rfl rfl ?_
          obtain ⟨g22, hw⟩ := hw
          refine V.ald hc ak_32 g22 dX6_advance_98 ?_
          refine V.callVV hc (qX6_accept G l _ _ _ _ _ hw) mo_X6_accept ml_X6_161 (by rfl) rfl rfl (as := [(0, h17 40 1 l3), (0, h17 32 o l3)]) rfl rfl rfl rfl rfl ⟨Nat.zero_le _, Nat.zero_le _⟩ dX6_advance_99 (fun h23 hw => ?_)
          exact tX6_advance_102 hc hr (fun y3 hy hw => by exact ih _ _ hw) hw
theorem tX6_advance_153 {G : GG} {p : Program} {l : Launch} {e : Jvm.Env} {s : State} {m : MethodId} {args : Array Value} {below : List Frame} {meth : Method} {c : Code} {P : HP → Prop} (hc : VC G p (rmD 4 0) s m args meth c RX6 cX6_advance 4 4) (hr : meth.sig.returnType = none) {o : Int} {a1 : Int} {h : HP} (hw : wX6_advance_153 o a1 P h) : V G p l e (rmD 4 0) s m args below meth c (MQ below (QV G P) args s 0 0 (va_Aof G)) 4 153 [(16, o), (1, 0), (1, 0), (1, 0)] [] h 0 := by
  refine V.aload_n (t := 6) hc dX6_advance_153 rfl rfl ?_
  refine V.dup hc dX6_advance_154 (by simp) ?_
  refine V.gI hc gI_X6_15 rfl dX6_advance_155 ?_
  refine V.aload_n (t := 6) hc dX6_advance_158 rfl rfl ?_
  refine V.gI hc gI_X6_15 rfl dX6_advance_159 ?_
  obtain ⟨q30, hw⟩ := hw
  have kJ33 : ∀ t29 : Int, ((h 6 o 2 ≤ 0 → t29 = 0) ∧ (¬ h 6 o 2 ≤ 0 → t29 = 1)) → V G p l e (rmD 4 0) s m args below meth c (MQ below (QV G P) args s 0 0 (va_Aof G)) 4 170 [(16, o), (1, 0), (1, 0), (1, 0)] [(0, t29), (0, h 6 o 2), (16, o)] h 0 := by
    intro t29 he
    replace hw := hw t29 he
    clear he
    refine V.isub hc dX6_advance_170 ?_
    refine V.pI hc pI_X6_15 rfl dX6_advance_171 (fun h31 e => ?_)
    replace hw := hw h31 e
    clear e
    refine V.aload_n (t := 6) hc dX6_advance_174 rfl rfl ?_
    refine V.dup hc dX6_advance_175 (by simp) ?_
    refine V.gI hc gI_X6_9 rfl dX6_advance_176 ?_
    refine V.iconst hc dX6_advance_179 ?_
    refine V.iadd hc dX6_advance_180 ?_
    refine V.pI hc pI_X6_9 rfl dX6_advance_181 (fun h32 e => ?_)
    replace hw := hw h32 e
    clear e
    exact V.vret hc hr dX6_advance_184 hw
  have g28 := q30
  refine V.if_le hc (tgt := 169) dX6_advance_162 (by decide) g28 (fun c34 => ?_) (fun c34 => ?_)
  · refine V.iconst hc dX6_advance_169 ?_
    exact kJ33 _ ⟨fun _ => rfl, (fun q => absurd c34 q)⟩
  · refine V.iconst hc dX6_advance_165 ?_
    refine V.goto hc (tgt := 170) dX6_advance_166 (by decide) ?_
    exact kJ33 _ ⟨(fun q => absurd q c34), fun _ => rfl⟩
theorem qX6_advance (G : GG) (l : Launch) (o : Int) (a1 : Int) (h : HP) (P : HP → Prop) (hw : wX6_advance o a1 h P) : CnV l G yX6_advance cX6_advance 4 4 [(16, o), (0, a1)] h P := by
  refine CnV.of (lo := [(16, o), (0, a1), (1, 0), (1, 0)]) (by decide) rfl rfl rfl ?_
  intro p e s m args below meth c hc hr
  have hc : VC G p (rmD 4 0) s m args meth c RX6 cX6_advance 4 4 := hc
  refine V.aload_n (t := 6) hc dX6_advance_0 rfl rfl ?_
  refine V.iload_n hc dX6_advance_1 rfl rfl ?_
  refine V.callVI hc (qX6_quietUnits G l _ _ _ _ hw) mo_X6_quietUnits ml_X6_152 (by rfl) rfl rfl (as := [(0, a1)]) rfl rfl rfl rfl rfl ⟨Nat.zero_le _, Nat.zero_le _⟩ dX6_advance_2 (fun x2 h1 hw => ?_)
  refine V.istore_n hc dX6_advance_5 rfl rfl (lo' := [(16, o), (0, a1), (0, x2), (1, 0)]) rfl ?_
  refine V.aload_n (t := 6) hc dX6_advance_6 rfl rfl ?_
  refine V.dup hc dX6_advance_7 (by simp) ?_
  refine V.gI hc gI_X6_9 rfl dX6_advance_8 ?_
  refine V.iload_n hc dX6_advance_11 rfl rfl ?_
  refine V.iadd hc dX6_advance_12 ?_
  refine V.pI hc pI_X6_9 rfl dX6_advance_13 (fun h3 e => ?_)
  replace hw := hw h3 e
  clear e
  refine V.aload_n (t := 6) hc dX6_advance_16 rfl rfl ?_
  refine V.aload_n (t := 6) hc dX6_advance_17 rfl rfl ?_
  refine V.gI hc gI_X6_15 rfl dX6_advance_18 ?_
  refine V.iload_n hc dX6_advance_21 rfl rfl ?_
  obtain ⟨q7, hw⟩ := hw
  have kJ45 : ∀ t6 : Int, ((h3 6 o 2 ≤ x2 → t6 = 0) ∧ (¬ h3 6 o 2 ≤ x2 → t6 = (h3 6 o 2) - x2)) → V G p l e (rmD 4 0) s m args below meth c (MQ below (QV G P) args s 0 0 (va_Aof G)) 4 35 [(16, o), (0, a1), (0, x2), (1, 0)] [(0, t6), (16, o)] h3 0 := by
    intro t6 he
    replace hw := hw t6 he
    clear he
    refine V.pI hc pI_X6_15 rfl dX6_advance_35 (fun h8 e => ?_)
    replace hw := hw h8 e
    clear e
    refine V.iload_n hc dX6_advance_38 rfl rfl ?_
    refine V.iload_n hc dX6_advance_39 rfl rfl ?_
    obtain ⟨g9, hw⟩ := hw
    obtain ⟨g10, hw⟩ := hw
    refine V.icmp_lt hc (tgt := 44) dX6_advance_40 (by decide) g9 g10 (fun c11 => ?_) (fun c11 => ?_)
    · replace hw := hw.1 c11
      refine V.iconst hc dX6_advance_44 ?_
      refine V.istore_n hc dX6_advance_45 rfl rfl (lo' := [(16, o), (0, a1), (0, x2), (0, 0)]) rfl ?_
      obtain ⟨f24, hw⟩ := hw
      refine V.drop (lo' := [(16, o), (1, 0), (1, 0), (0, 0)]) ⟨Or.inr rfl, Or.inl rfl, Or.inl rfl, Or.inr rfl, trivial⟩ ?_
      refine tX6_advance_46 hc hr ?_ f24 _ _ hw
      · intro h25 hw
        refine V.aload_n (t := 6) hc dX6_advance_108 rfl rfl ?_
        refine V.gI hc gI_X6_15 rfl dX6_advance_109 ?_
        obtain ⟨g26, hw⟩ := hw
        refine V.if_ne hc (tgt := 153) dX6_advance_112 (by decide) g26 (fun c27 => ?_) (fun c27 => ?_)
        · replace hw := hw.1 c27
          exact tX6_advance_153 hc hr  hw
        · replace hw := hw.2 c27
          refine V.aload_n (t := 6) hc dX6_advance_115 rfl rfl ?_
          refine V.gR hc gR_X6_46 (i' := o) rfl dX6_advance_116 ?_
          refine V.bipush hc dX6_advance_119 (by decide) ?_
          refine V.ald hc ak_29 (by omega) dX6_advance_121 ?_
          obtain ⟨g35, hw⟩ := hw
          refine V.if_le hc (tgt := 153) dX6_advance_122 (by decide) g35 (fun c36 => ?_) (fun c36 => ?_)
          · replace hw := hw.1 c36
            exact tX6_advance_153 hc hr  hw
          · replace hw := hw.2 c36
            refine V.aload_n (t := 6) hc dX6_advance_125 rfl rfl ?_
            refine V.callVI hc (qX6_pickByDeadline G l _ _ _ hw) mo_X6_pickByDeadline ml_X6_165 (by rfl) rfl rfl (as := []) rfl rfl rfl rfl rfl ⟨Nat.zero_le _, Nat.zero_le _⟩ dX6_advance_126 (fun x38 h37 hw => ?_)
            refine V.istore_n hc dX6_advance_129 rfl rfl (lo' := [(16, o), (1, 0), (1, 0), (0, x38)]) rfl ?_
            refine V.iload_n hc dX6_advance_130 rfl rfl ?_
            refine V.iconst hc dX6_advance_131 ?_
            obtain ⟨g39, hw⟩ := hw
            refine V.icmp_eq hc (tgt := 144) dX6_advance_132 (by decide) g39 (by omega) (fun c40 => ?_) (fun c40 => ?_)
            · replace hw := hw.1 c40
              refine V.aload_n (t := 6) hc dX6_advance_144 rfl rfl ?_
              refine V.aload_n (t := 6) hc dX6_advance_145 rfl rfl ?_
              refine V.callVI hc (qX6_pickByShare G l _ _ _ hw) mo_X6_pickByShare ml_X6_173 (by rfl) rfl rfl (as := []) rfl rfl rfl rfl rfl ⟨Nat.zero_le _, Nat.zero_le _⟩ dX6_advance_146 (fun x42 h41 hw => ?_)
              refine V.iconst hc dX6_advance_149 ?_
              refine V.callVV hc (qX6_send G l _ _ _ _ _ hw) mo_X6_send ml_X6_169 (by rfl) rfl rfl (as := [(0, x42), (0, 0)]) rfl rfl rfl rfl rfl ⟨Nat.zero_le _, Nat.zero_le _⟩ dX6_advance_150 (fun h43 hw => ?_)
              refine V.drop (lo' := [(16, o), (1, 0), (1, 0), (1, 0)]) ⟨Or.inr rfl, Or.inr rfl, Or.inr rfl, Or.inl rfl, trivial⟩ ?_
              exact tX6_advance_153 hc hr  hw
            · replace hw := hw.2 c40
              refine V.aload_n (t := 6) hc dX6_advance_135 rfl rfl ?_
              refine V.iload_n hc dX6_advance_136 rfl rfl ?_
              refine V.iconst hc dX6_advance_137 ?_
              refine V.callVV hc (qX6_send G l _ _ _ _ _ hw) mo_X6_send ml_X6_169 (by rfl) rfl rfl (as := [(0, x38), (0, 1)]) rfl rfl rfl rfl rfl ⟨Nat.zero_le _, Nat.zero_le _⟩ dX6_advance_138 (fun h44 hw => ?_)
              refine V.goto hc (tgt := 153) dX6_advance_141 (by decide) ?_
              refine V.drop (lo' := [(16, o), (1, 0), (1, 0), (1, 0)]) ⟨Or.inr rfl, Or.inr rfl, Or.inr rfl, Or.inl rfl, trivial⟩ ?_
              exact tX6_advance_153 hc hr  hw
    · replace hw := hw.2 c11
      exact V.vret hc hr dX6_advance_43 hw
  obtain ⟨g4, g5⟩ := q7
  refine V.icmp_le hc (tgt := 34) dX6_advance_22 (by decide) g4 g5 (fun c46 => ?_) (fun c46 => ?_)
  · refine V.iconst hc dX6_advance_34 ?_
    exact kJ45 _ ⟨fun _ => rfl, (fun q => absurd c46 q)⟩
  · refine V.aload_n (t := 6) hc dX6_advance_25 rfl rfl ?_
    refine V.gI hc gI_X6_15 rfl dX6_advance_26 ?_
    refine V.iload_n hc dX6_advance_29 rfl rfl ?_
    refine V.isub hc dX6_advance_30 ?_
    refine V.goto hc (tgt := 35) dX6_advance_31 (by decide) ?_
    exact kJ45 _ ⟨(fun q => absurd q c46), fun _ => rfl⟩
theorem tX6_pass_9 {G : GG} {p : Program} {l : Launch} {e : Jvm.Env} {s : State} {m : MethodId} {args : Array Value} {below : List Frame} {meth : Method} {c : Code} {P : HP → Prop} (hc : VC G p (rmD 5 0) s m args meth c RX6 cX6_pass 4 5) (hr : meth.sig.returnType = none) {o : Int} {a1 : Int} {l2 : Int} {K38 : HP → Prop} (hK38 : ∀  (h : HP), K38  h → V G p l e (rmD 5 0) s m args below meth c (MQ below (QV G P) args s 0 0 (va_Aof G)) 4 38 [(1, 0), (1, 0), (1, 0), (1, 0)] [] h 0) : ∀ (f : Nat) (l3 : Int) (h : HP), wX6_pass_9 o a1 l2 K38 f l3 h → V G p l e (rmD 5 0) s m args below meth c (MQ below (QV G P) args s 0 0 (va_Aof G)) 4 9 [(16, o), (0, a1), (0, l2), (0, l3)] [] h 0 := by
  intro f
  induction f with
  | zero =>
    intro l3 h hw
    exact hw.elim
  | succ f ih =>
    intro l3 h hw
    refine V.iload_n hc dX6_pass_9 rfl rfl ?_
    refine V.iload_n hc dX6_pass_10 rfl rfl ?_
    obtain ⟨g1, hw⟩ := hw
    obtain ⟨g2, hw⟩ := hw
    refine V.icmp_ge hc (tgt := 38) dX6_pass_11 (by decide) g1 g2 (fun c3 => ?_) (fun c3 => ?_)
    · replace hw := hw.1 c3
      refine V.drop (lo' := [(1, 0), (1, 0), (1, 0), (1, 0)]) ⟨Or.inl rfl, Or.inl rfl, Or.inl rfl, Or.inl rfl, trivial⟩ ?_
      exact hK38 _ hw
    · replace hw := hw.2 c3
      refine V.aload_n (t := 6) hc dX6_pass_14 rfl rfl ?_
      refine V.gI hc gI_X6_9 rfl dX6_pass_15 ?_
      refine V.iload_n hc dX6_pass_18 rfl rfl ?_
      obtain ⟨g4, hw⟩ := hw
      obtain ⟨g5, hw⟩ := hw
      refine V.icmp_ge hc (tgt := 38) dX6_pass_19 (by decide) g4 g5 (fun c6 => ?_) (fun c6 => ?_)
      · replace hw := hw.1 c6
        refine V.drop (lo' := [(1, 0), (1, 0), (1, 0), (1, 0)]) ⟨Or.inl rfl, Or.inl rfl, Or.inl rfl, Or.inl rfl, trivial⟩ ?_
        exact hK38 _ hw
      · replace hw := hw.2 c6
        refine V.aload_n (t := 6) hc dX6_pass_22 rfl rfl ?_
        refine V.iload_n hc dX6_pass_23 rfl rfl ?_
        refine V.aload_n (t := 6) hc dX6_pass_24 rfl rfl ?_
        refine V.gI hc gI_X6_9 rfl dX6_pass_25 ?_
        refine V.isub hc dX6_pass_28 ?_
        refine V.callVV hc (qX6_advance G l _ _ _ _ hw) mo_X6_advance ml_X6_149 (by rfl) rfl rfl (as := [(0, l2 - (h 6 o 1))]) rfl rfl rfl rfl rfl ⟨Nat.zero_le _, Nat.zero_le _⟩ dX6_pass_29 (fun h7 hw => ?_)
        refine V.iinc hc dX6_pass_32 rfl rfl (lo' := [(16, o), (0, a1), (0, l2), (0, l3 + 1)]) rfl ?_
        refine V.goto hc (tgt := 9) dX6_pass_35 (by decide) ?_
        exact ih _ _ hw
theorem qX6_pass (G : GG) (l : Launch) (o : Int) (a1 : Int) (h : HP) (P : HP → Prop) (hw : wX6_pass o a1 h P) : CnV l G yX6_pass cX6_pass 4 5 [(16, o), (0, a1)] h P := by
  refine CnV.of (lo := [(16, o), (0, a1), (1, 0), (1, 0)]) (by decide) rfl rfl rfl ?_
  intro p e s m args below meth c hc hr
  have hc : VC G p (rmD 5 0) s m args meth c RX6 cX6_pass 4 5 := hc
  refine V.aload_n (t := 6) hc dX6_pass_0 rfl rfl ?_
  refine V.gI hc gI_X6_9 rfl dX6_pass_1 ?_
  refine V.iload_n hc dX6_pass_4 rfl rfl ?_
  refine V.iadd hc dX6_pass_5 ?_
  refine V.istore_n hc dX6_pass_6 rfl rfl (lo' := [(16, o), (0, a1), (0, (h 6 o 1) + a1), (1, 0)]) rfl ?_
  refine V.iconst hc dX6_pass_7 ?_
  refine V.istore_n hc dX6_pass_8 rfl rfl (lo' := [(16, o), (0, a1), (0, (h 6 o 1) + a1), (0, 0)]) rfl ?_
  obtain ⟨f8, hw⟩ := hw
  refine tX6_pass_9 hc hr ?_ f8 _ _ hw
  · intro h9 hw
    exact V.vret hc hr dX6_pass_38 hw
theorem tX6_allSent_4 {G : GG} {p : Program} {l : Launch} {e : Jvm.Env} {s : State} {m : MethodId} {args : Array Value} {below : List Frame} {meth : Method} {c : Code} {P : Int → HP → Prop} (hc : VC G p (rmD 1 0) s m args meth c RX6 cX6_allSent 3 1) (hr : meth.sig.returnType = some .int) {o : Int} {h : HP} {K45 : Int → Prop} (hK45 : ∀ (x1 : Int), K45 x1 → V G p l e (rmD 1 0) s m args below meth c (MQ below (QI G P) args s 0 0 (va_Aof G)) 3 45 [(1, 0), (0, x1), (1, 0)] [] h 0) : ∀ (f : Nat) (l1 : Int) (l2 : Int), wX6_allSent_4 o h K45 f l1 l2 → V G p l e (rmD 1 0) s m args below meth c (MQ below (QI G P) args s 0 0 (va_Aof G)) 3 4 [(16, o), (0, l1), (0, l2)] [] h 0 := by
  intro f
  induction f with
  | zero =>
    intro l1 l2 hw
    exact hw.elim
  | succ f ih =>
    intro l1 l2 hw
    refine V.iload_n hc dX6_allSent_4 rfl rfl ?_
    refine V.aload_n (t := 6) hc dX6_allSent_5 rfl rfl ?_
    refine V.gR hc gR_X6_68 (i' := 1) rfl dX6_allSent_6 ?_
    refine V.gR hc gR_X6_117 (i' := 1) rfl dX6_allSent_9 ?_
    refine V.bipush hc dX6_allSent_12 (by decide) ?_
    refine V.ald hc ak_38 (by omega) dX6_allSent_14 ?_
    obtain ⟨g1, hw⟩ := hw
    obtain ⟨g2, hw⟩ := hw
    refine V.icmp_ge hc (tgt := 45) dX6_allSent_15 (by decide) g1 g2 (fun c3 => ?_) (fun c3 => ?_)
    · replace hw := hw.1 c3
      refine V.drop (lo' := [(1, 0), (0, l1), (1, 0)]) ⟨Or.inl rfl, Or.inr rfl, Or.inl rfl, trivial⟩ ?_
      exact hK45 _ hw
    · replace hw := hw.2 c3
      refine V.iload_n hc dX6_allSent_18 rfl rfl ?_
      refine V.aload_n (t := 6) hc dX6_allSent_19 rfl rfl ?_
      refine V.gR hc gR_X6_30 (i' := o) rfl dX6_allSent_20 ?_
      refine V.aload_n (t := 6) hc dX6_allSent_23 rfl rfl ?_
      refine V.gR hc gR_X6_68 (i' := 1) rfl dX6_allSent_24 ?_
      refine V.gR hc gR_X6_120 (i' := 1) rfl dX6_allSent_27 ?_
      refine V.sipush hc dX6_allSent_30 (by decide) ?_
      refine V.iload_n hc dX6_allSent_33 rfl rfl ?_
      refine V.iadd hc dX6_allSent_34 ?_
      obtain ⟨g4, hw⟩ := hw
      refine V.ald hc ak_39 g4 dX6_allSent_35 ?_
      obtain ⟨g5, hw⟩ := hw
      refine V.ald hc ak_24 g5 dX6_allSent_36 ?_
      refine V.iadd hc dX6_allSent_37 ?_
      refine V.istore_n hc dX6_allSent_38 rfl rfl (lo' := [(16, o), (0, l1 + (h 24 o (h 39 1 (144 + l2)))), (0, l2)]) rfl ?_
      refine V.iinc hc dX6_allSent_39 rfl rfl (lo' := [(16, o), (0, l1 + (h 24 o (h 39 1 (144 + l2)))), (0, l2 + 1)]) rfl ?_
      refine V.goto hc (tgt := 4) dX6_allSent_42 (by decide) ?_
      exact ih _ _ hw
theorem qX6_allSent (G : GG) (l : Launch) (o : Int) (h : HP) (P : Int → HP → Prop) (hw : wX6_allSent o h P) : CnI l G yX6_allSent cX6_allSent 3 (some .int) 1 [(16, o)] h P := by
  refine CnI.of (lo := [(16, o), (1, 0), (1, 0)]) (by decide) rfl rfl rfl ?_
  intro p e s m args below meth c hc hr
  have hc : VC G p (rmD 1 0) s m args meth c RX6 cX6_allSent 3 1 := hc
  refine V.iconst hc dX6_allSent_0 ?_
  refine V.istore_n hc dX6_allSent_1 rfl rfl (lo' := [(16, o), (0, 0), (1, 0)]) rfl ?_
  refine V.iconst hc dX6_allSent_2 ?_
  refine V.istore_n hc dX6_allSent_3 rfl rfl (lo' := [(16, o), (0, 0), (0, 0)]) rfl ?_
  obtain ⟨f6, hw⟩ := hw
  refine tX6_allSent_4 hc hr ?_ f6 _ _ hw
  · intro l7 hw
    refine V.iload_n hc dX6_allSent_45 rfl rfl ?_
    exact V.iret hc hr dX6_allSent_46 hw
