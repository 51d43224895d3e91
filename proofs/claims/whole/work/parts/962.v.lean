theorem qX6_packets (G : GG) (l : Launch) (o : Int) (a1 : Int) (h : HP) (P : Int → HP → Prop) (hw : wX6_packets o a1 h P) : CnI l G yX6_packets cX6_packets 2 (some .int) 9 [(16, o), (0, a1)] h P := by
  refine CnI.of (lo := [(16, o), (0, a1)]) (by decide) rfl rfl rfl ?_
  intro p e s m args below meth c hc hr
  have hc : VC G p (rmD 9 0) s m args meth c RX6 cX6_packets 2 9 := hc
  refine V.aload_n (t := 6) hc dX6_packets_0 rfl rfl ?_
  refine V.gR hc gR_X6_68 (i' := 1) rfl dX6_packets_1 ?_
  refine V.iload_n hc dX6_packets_4 rfl rfl ?_
  refine V.callVI hc (qX8_isLeaf G l _ _ _ _ hw) mo_X8_isLeaf ml_X6_106 (by rfl) rfl rfl (as := [(0, a1)]) rfl rfl rfl rfl rfl ⟨Nat.zero_le _, Nat.zero_le _⟩ dX6_packets_5 (fun x2 h1 hw => ?_)
  obtain ⟨q6, hw⟩ := hw
  have kJ7 : ∀ t5 : Int, ((x2 = 0 → t5 = 0) ∧ (¬ x2 = 0 → t5 = h1 29 o a1)) → V G p l e (rmD 9 0) s m args below meth c (MQ below (QI G P) args s 0 0 (va_Aof G)) 2 21 [(1, 0), (1, 0)] [(0, t5)] h1 0 := by
    intro t5 he
    replace hw := hw t5 he
    clear he
    exact V.iret hc hr dX6_packets_21 hw
  obtain ⟨g3, q8⟩ := q6
  refine V.if_eq hc (tgt := 20) dX6_packets_8 (by decide) g3 (fun c9 => ?_) (fun c9 => ?_)
  · refine V.iconst hc dX6_packets_20 ?_
    refine V.drop (lo' := [(1, 0), (1, 0)]) ⟨Or.inl rfl, Or.inl rfl, trivial⟩ ?_
    exact kJ7 _ ⟨fun _ => rfl, (fun q => absurd c9 q)⟩
  · have q10 := q8 c9
    have g4 := q10
    refine V.aload_n (t := 6) hc dX6_packets_11 rfl rfl ?_
    refine V.gR hc gR_X6_46 (i' := o) rfl dX6_packets_12 ?_
    refine V.iload_n hc dX6_packets_15 rfl rfl ?_
    refine V.ald hc ak_29 g4 dX6_packets_16 ?_
    refine V.goto hc (tgt := 21) dX6_packets_17 (by decide) ?_
    refine V.drop (lo' := [(1, 0), (1, 0)]) ⟨Or.inl rfl, Or.inl rfl, trivial⟩ ?_
    exact kJ7 _ ⟨(fun q => absurd q c9), fun _ => rfl⟩
theorem tX6_emptyQueue_12 {G : GG} {p : Program} {l : Launch} {e : Jvm.Env} {s : State} {m : MethodId} {args : Array Value} {below : List Frame} {meth : Method} {c : Code} {P : Int → HP → Prop} (hc : VC G p (rmD 8 0) s m args meth c RX6 cX6_emptyQueue 5 8) (hr : meth.sig.returnType = some .int) {o : Int} {a1 : Int} {l2 : Int} {K51 : HP → Prop} (hK51 : ∀  (h : HP), K51  h → V G p l e (rmD 8 0) s m args below meth c (MQ below (QI G P) args s 0 0 (va_Aof G)) 5 51 [(16, o), (1, 0), (0, l2), (1, 0), (1, 0)] [] h 0) : ∀ (f : Nat) (l3 : Int) (l4 : Int) (h : HP), wX6_emptyQueue_12 o a1 l2 K51 f l3 l4 h → V G p l e (rmD 8 0) s m args below meth c (MQ below (QI G P) args s 0 0 (va_Aof G)) 5 12 [(16, o), (1, 0), (0, l2), (0, l3), (0, l4)] [] h 0 := by
  intro f
  induction f with
  | zero =>
    intro l3 l4 h hw
    exact hw.elim
  | succ f ih =>
    intro l3 l4 h hw
    refine V.iload hc dX6_emptyQueue_12 rfl ?_
    refine V.bipush hc dX6_emptyQueue_14 (by decide) ?_
    obtain ⟨g2, hw⟩ := hw
    refine V.icmp_ge hc (tgt := 51) dX6_emptyQueue_16 (by decide) g2 (by omega) (fun c3 => ?_) (fun c3 => ?_)
    · replace hw := hw.1 c3
      refine V.drop (lo' := [(16, o), (1, 0), (0, l2), (1, 0), (1, 0)]) ⟨Or.inr rfl, Or.inr rfl, Or.inr rfl, Or.inl rfl, Or.inl rfl, trivial⟩ ?_
      exact hK51 _ hw
    · replace hw := hw.2 c3
      refine V.iload_n hc dX6_emptyQueue_19 rfl rfl ?_
      refine V.bipush hc dX6_emptyQueue_20 (by decide) ?_
      obtain ⟨g4, hw⟩ := hw
      refine V.icmp_eq hc (tgt := 51) dX6_emptyQueue_22 (by decide) g4 (by omega) (fun c5 => ?_) (fun c5 => ?_)
      · replace hw := hw.1 c5
        refine V.drop (lo' := [(16, o), (1, 0), (0, l2), (1, 0), (1, 0)]) ⟨Or.inr rfl, Or.inr rfl, Or.inr rfl, Or.inl rfl, Or.inl rfl, trivial⟩ ?_
        exact hK51 _ hw
      · replace hw := hw.2 c5
        refine V.aload_n (t := 6) hc dX6_emptyQueue_25 rfl rfl ?_
        refine V.gR hc gR_X6_46 (i' := o) rfl dX6_emptyQueue_26 ?_
        refine V.iload_n hc dX6_emptyQueue_29 rfl rfl ?_
        refine V.dup2 hc dX6_emptyQueue_30 (by simp) (by simp) ?_
        obtain ⟨g6, hw⟩ := hw
        refine V.ald hc ak_29 g6 dX6_emptyQueue_31 ?_
        refine V.iload_n hc dX6_emptyQueue_32 rfl rfl ?_
        refine V.isub hc dX6_emptyQueue_33 ?_
        obtain ⟨g8, hw⟩ := hw
        refine V.ast hc ak_29 g8 dX6_emptyQueue_34 (fun h7 e => ?_)
        replace hw := hw h7 e
        clear e
        refine V.aload_n (t := 6) hc dX6_emptyQueue_35 rfl rfl ?_
        refine V.gR hc gR_X6_68 (i' := 1) rfl dX6_emptyQueue_36 ?_
        refine V.gR hc gR_X6_137 (i' := 1) rfl dX6_emptyQueue_39 ?_
        refine V.iload_n hc dX6_emptyQueue_42 rfl rfl ?_
        obtain ⟨g9, hw⟩ := hw
        refine V.ald hc ak_37 g9 dX6_emptyQueue_43 ?_
        refine V.istore_n hc dX6_emptyQueue_44 rfl rfl (lo' := [(16, o), (1, 0), (0, l2), (0, h7 37 1 l3), (0, l4)]) rfl ?_
        refine V.iinc hc dX6_emptyQueue_45 rfl rfl (lo' := [(16, o), (1, 0), (0, l2), (0, h7 37 1 l3), (0, l4 + 1)]) rfl ?_
        refine V.goto hc (tgt := 12) dX6_emptyQueue_48 (by decide) ?_
        exact ih _ _ _ hw
theorem qX6_emptyQueue (G : GG) (l : Launch) (o : Int) (a1 : Int) (h : HP) (P : Int → HP → Prop) (hw : wX6_emptyQueue o a1 h P) : CnI l G yX6_emptyQueue cX6_emptyQueue 5 (some .int) 8 [(16, o), (0, a1)] h P := by
  refine CnI.of (lo := [(16, o), (0, a1), (1, 0), (1, 0), (1, 0)]) (by decide) rfl rfl rfl ?_
  intro p e s m args below meth c hc hr
  have hc : VC G p (rmD 8 0) s m args meth c RX6 cX6_emptyQueue 5 8 := hc
  refine V.aload_n (t := 6) hc dX6_emptyQueue_0 rfl rfl ?_
  refine V.gR hc gR_X6_46 (i' := o) rfl dX6_emptyQueue_1 ?_
  refine V.iload_n hc dX6_emptyQueue_4 rfl rfl ?_
  obtain ⟨g1, hw⟩ := hw
  refine V.ald hc ak_29 g1 dX6_emptyQueue_5 ?_
  refine V.istore_n hc dX6_emptyQueue_6 rfl rfl (lo' := [(16, o), (0, a1), (0, h 29 o a1), (1, 0), (1, 0)]) rfl ?_
  refine V.iload_n hc dX6_emptyQueue_7 rfl rfl ?_
  refine V.istore_n hc dX6_emptyQueue_8 rfl rfl (lo' := [(16, o), (0, a1), (0, h 29 o a1), (0, a1), (1, 0)]) rfl ?_
  refine V.iconst hc dX6_emptyQueue_9 ?_
  refine V.istore hc dX6_emptyQueue_10 rfl (lo' := [(16, o), (0, a1), (0, h 29 o a1), (0, a1), (0, 0)]) rfl ?_
  obtain ⟨f10, hw⟩ := hw
  refine V.drop (lo' := [(16, o), (1, 0), (0, h 29 o a1), (0, a1), (0, 0)]) ⟨Or.inr rfl, Or.inl rfl, Or.inr rfl, Or.inr rfl, Or.inr rfl, trivial⟩ ?_
  refine tX6_emptyQueue_12 hc hr ?_ f10 _ _ _ hw
  · intro h11 hw
    refine V.aload_n (t := 6) hc dX6_emptyQueue_51 rfl rfl ?_
    refine V.gR hc gR_X6_46 (i' := o) rfl dX6_emptyQueue_52 ?_
    refine V.bipush hc dX6_emptyQueue_55 (by decide) ?_
    refine V.dup2 hc dX6_emptyQueue_57 (by simp) (by simp) ?_
    refine V.ald hc ak_29 (by omega) dX6_emptyQueue_58 ?_
    refine V.iload_n hc dX6_emptyQueue_59 rfl rfl ?_
    refine V.isub hc dX6_emptyQueue_60 ?_
    refine V.ast hc ak_29 (by omega) dX6_emptyQueue_61 (fun h12 e => ?_)
    replace hw := hw h12 e
    clear e
    refine V.iload_n hc dX6_emptyQueue_62 rfl rfl ?_
    exact V.iret hc hr dX6_emptyQueue_63 hw
theorem qX0_happenTo (G : GG) (l : Launch) (o : Int) (a1 : Int) (a2 : Int) (h : HP) (P : HP → Prop) (hw : wX0_happenTo o a1 a2 h P) : CnV l G yX0_happenTo cX0_happenTo 4 11 [(10, o), (0, a1), (0, a2)] h P := by
  refine CnV.of (lo := [(10, o), (0, a1), (0, a2), (1, 0)]) (by decide) rfl rfl rfl ?_
  intro p e s m args below meth c hc hr
  have hc : VC G p (rmD 11 0) s m args meth c RX0 cX0_happenTo 4 11 := hc
  refine V.iload_n hc dX0_happenTo_0 rfl rfl ?_
  obtain ⟨g1, hw⟩ := hw
  refine V.if_ne hc (tgt := 36) dX0_happenTo_1 (by decide) g1 (fun c2 => ?_) (fun c2 => ?_)
  · replace hw := hw.1 c2
    refine V.iload_n hc dX0_happenTo_36 rfl rfl ?_
    refine V.iconst hc dX0_happenTo_37 ?_
    obtain ⟨g3, hw⟩ := hw
    refine V.icmp_ne hc (tgt := 65) dX0_happenTo_38 (by decide) g3 (by omega) (fun c4 => ?_) (fun c4 => ?_)
    · replace hw := hw.1 c4
      refine V.aload_n (t := 0) hc dX0_happenTo_65 rfl rfl ?_
      refine V.gR hc gR_X0_23 (i' := 12) rfl dX0_happenTo_66 ?_
      refine V.iload_n hc dX0_happenTo_69 rfl rfl ?_
      refine V.callVI hc (qX6_packets G l _ _ _ _ hw) mo_X6_packets ml_X0_94 (by rfl) rfl rfl (as := [(0, a1)]) rfl rfl rfl rfl rfl ⟨Nat.zero_le _, Nat.zero_le _⟩ dX0_happenTo_70 (fun x6 h5 hw => ?_)
      obtain ⟨g7, hw⟩ := hw
      refine V.if_le hc (tgt := 85) dX0_happenTo_73 (by decide) g7 (fun c8 => ?_) (fun c8 => ?_)
      · replace hw := hw.1 c8
        exact V.vret hc hr dX0_happenTo_85 hw
      · replace hw := hw.2 c8
        refine V.aload_n (t := 0) hc dX0_happenTo_76 rfl rfl ?_
        refine V.gR hc gR_X0_23 (i' := 12) rfl dX0_happenTo_77 ?_
        refine V.iload_n hc dX0_happenTo_80 rfl rfl ?_
        refine V.callVI hc (qX6_emptyQueue G l _ _ _ _ hw) mo_X6_emptyQueue ml_X0_97 (by rfl) rfl rfl (as := [(0, a1)]) rfl rfl rfl rfl rfl ⟨Nat.zero_le _, Nat.zero_le _⟩ dX0_happenTo_81 (fun x10 h9 hw => ?_)
        refine V.pop hc dX0_happenTo_84 (by show (0 : Nat) ≠ 2; omega) ?_
        exact V.vret hc hr dX0_happenTo_85 hw
    · replace hw := hw.2 c4
      refine V.aload_n (t := 0) hc dX0_happenTo_41 rfl rfl ?_
      refine V.bipush hc dX0_happenTo_42 (by decide) ?_
      refine V.callVI hc (qX0_draw G l _ _ _ _ hw) mo_X0_draw ml_X0_56 (by rfl) rfl rfl (as := [(0, 100)]) rfl rfl rfl rfl rfl ⟨Nat.zero_le _, Nat.zero_le _⟩ dX0_happenTo_44 (fun x12 h11 hw => ?_)
      refine V.iconst hc dX0_happenTo_47 ?_
      refine V.iadd hc dX0_happenTo_48 ?_
      refine V.istore_n hc dX0_happenTo_49 rfl rfl (lo' := [(10, o), (0, a1), (0, a2), (0, x12 + 1)]) rfl ?_
      refine V.aload_n (t := 0) hc dX0_happenTo_50 rfl rfl ?_
      refine V.gR hc gR_X0_23 (i' := 12) rfl dX0_happenTo_51 ?_
      refine V.iload_n hc dX0_happenTo_54 rfl rfl ?_
      refine V.iconst hc dX0_happenTo_55 ?_
      refine V.iload_n hc dX0_happenTo_56 rfl rfl ?_
      refine V.iconst hc dX0_happenTo_57 ?_
      refine V.iload_n hc dX0_happenTo_58 rfl rfl ?_
      refine V.callVV hc (qX6_changeCurve G l _ _ _ _ _ _ _ _ hw) mo_X6_changeCurve ml_X0_90 (by rfl) rfl rfl (as := [(0, a1), (0, 1), (0, x12 + 1), (0, 0), (0, x12 + 1)]) rfl rfl rfl rfl rfl ⟨Nat.zero_le _, Nat.zero_le _⟩ dX0_happenTo_59 (fun h13 hw => ?_)
      refine V.goto hc (tgt := 85) dX0_happenTo_62 (by decide) ?_
      exact V.vret hc hr dX0_happenTo_85 hw
  · replace hw := hw.2 c2
    refine V.aload_n (t := 0) hc dX0_happenTo_4 rfl rfl ?_
    refine V.bipush hc dX0_happenTo_5 (by decide) ?_
    refine V.callVI hc (qX0_draw G l _ _ _ _ hw) mo_X0_draw ml_X0_56 (by rfl) rfl rfl (as := [(0, 64)]) rfl rfl rfl rfl rfl ⟨Nat.zero_le _, Nat.zero_le _⟩ dX0_happenTo_7 (fun x15 h14 hw => ?_)
    refine V.iconst hc dX0_happenTo_10 ?_
    refine V.iadd hc dX0_happenTo_11 ?_
    refine V.istore_n hc dX0_happenTo_12 rfl rfl (lo' := [(10, o), (0, a1), (0, a2), (0, x15 + 1)]) rfl ?_
    refine V.aload_n (t := 0) hc dX0_happenTo_13 rfl rfl ?_
    refine V.gR hc gR_X0_15 (i' := 1) rfl dX0_happenTo_14 ?_
    refine V.iload_n hc dX0_happenTo_17 rfl rfl ?_
    refine V.callVI hc (qX8_isLeaf G l _ _ _ _ hw) mo_X8_isLeaf ml_X0_83 (by rfl) rfl rfl (as := [(0, a1)]) rfl rfl rfl rfl rfl ⟨Nat.zero_le _, Nat.zero_le _⟩ dX0_happenTo_18 (fun x17 h16 hw => ?_)
    obtain ⟨g18, hw⟩ := hw
    refine V.if_eq hc (tgt := 33) dX0_happenTo_21 (by decide) g18 (fun c19 => ?_) (fun c19 => ?_)
    · replace hw := hw.1 c19
      refine V.goto hc (tgt := 85) dX0_happenTo_33 (by decide) ?_
      exact V.vret hc hr dX0_happenTo_85 hw
    · replace hw := hw.2 c19
      refine V.aload_n (t := 0) hc dX0_happenTo_24 rfl rfl ?_
      refine V.gR hc gR_X0_23 (i' := 12) rfl dX0_happenTo_25 ?_
      refine V.iload_n hc dX0_happenTo_28 rfl rfl ?_
      refine V.iload_n hc dX0_happenTo_29 rfl rfl ?_
      refine V.callVV hc (qX6_accept G l _ _ _ _ _ hw) mo_X6_accept ml_X0_87 (by rfl) rfl rfl (as := [(0, a1), (0, x15 + 1)]) rfl rfl rfl rfl rfl ⟨Nat.zero_le _, Nat.zero_le _⟩ dX0_happenTo_30 (fun h20 hw => ?_)
      refine V.goto hc (tgt := 85) dX0_happenTo_33 (by decide) ?_
      exact V.vret hc hr dX0_happenTo_85 hw
theorem qX6_toggleFlow (G : GG) (l : Launch) (o : Int) (a1 : Int) (h : HP) (P : HP → Prop) (hw : wX6_toggleFlow o a1 h P) : CnV l G yX6_toggleFlow cX6_toggleFlow 2 8 [(16, o), (0, a1)] h P := by
  refine CnV.of (lo := [(16, o), (0, a1)]) (by decide) rfl rfl rfl ?_
  intro p e s m args below meth c hc hr
  have hc : VC G p (rmD 8 0) s m args meth c RX6 cX6_toggleFlow 2 8 := hc
  refine V.aload_n (t := 6) hc dX6_toggleFlow_0 rfl rfl ?_
  refine V.dup hc dX6_toggleFlow_1 (by simp) ?_
  refine V.gI hc gI_X6_27 rfl dX6_toggleFlow_2 ?_
  refine V.iconst hc dX6_toggleFlow_5 ?_
  refine V.iload_n hc dX6_toggleFlow_6 rfl rfl ?_
  refine V.ishl hc dX6_toggleFlow_7 ?_
  refine V.ixor hc dX6_toggleFlow_8 ?_
  refine V.pI hc pI_X6_27 rfl dX6_toggleFlow_9 (fun h1 e => ?_)
  replace hw := hw h1 e
  clear e
  exact V.vret hc hr dX6_toggleFlow_12 hw
theorem tX0_happen_31 {G : GG} {p : Program} {l : Launch} {e : Jvm.Env} {s : State} {m : MethodId} {args : Array Value} {below : List Frame} {meth : Method} {c : Code} {P : HP → Prop} (hc : VC G p (rmD 12 0) s m args meth c RX0 cX0_happen 2 12) (hr : meth.sig.returnType = none) {o : Int} {a1 : Int} {h : HP} (hw : wX0_happen_31 o a1 P h) : V G p l e (rmD 12 0) s m args below meth c (MQ below (QV G P) args s 0 0 (va_Aof G)) 2 31 [(10, o), (0, a1)] [] h 0 := by
  refine V.iload_n hc dX0_happen_31 rfl rfl ?_
  refine V.iconst hc dX0_happen_32 ?_
  obtain ⟨g3, hw⟩ := hw
  refine V.icmp_ne hc (tgt := 64) dX0_happen_33 (by decide) g3 (by omega) (fun c4 => ?_) (fun c4 => ?_)
  · replace hw := hw.1 c4
    exact V.vret hc hr dX0_happen_64 hw
  · replace hw := hw.2 c4
    refine V.aload_n (t := 0) hc dX0_happen_36 rfl rfl ?_
    refine V.gR hc gR_X0_15 (i' := 1) rfl dX0_happen_37 ?_
    refine V.gI hc gI_X0_77 rfl dX0_happen_40 ?_
    obtain ⟨g5, hw⟩ := hw
    refine V.if_le hc (tgt := 64) dX0_happen_43 (by decide) g5 (fun c6 => ?_) (fun c6 => ?_)
    · replace hw := hw.1 c6
      exact V.vret hc hr dX0_happen_64 hw
    · replace hw := hw.2 c6
      refine V.aload_n (t := 0) hc dX0_happen_46 rfl rfl ?_
      refine V.gR hc gR_X0_23 (i' := 12) rfl dX0_happen_47 ?_
      refine V.aload_n (t := 0) hc dX0_happen_50 rfl rfl ?_
      refine V.aload_n (t := 0) hc dX0_happen_51 rfl rfl ?_
      refine V.gR hc gR_X0_15 (i' := 1) rfl dX0_happen_52 ?_
      refine V.gI hc gI_X0_77 rfl dX0_happen_55 ?_
      refine V.callVI hc (qX0_draw G l _ _ _ _ hw) mo_X0_draw ml_X0_56 (by rfl) rfl rfl (as := [(0, h 8 1 1)]) rfl rfl rfl rfl rfl ⟨Nat.zero_le _, Nat.zero_le _⟩ dX0_happen_58 (fun x8 h7 hw => ?_)
      refine V.callVV hc (qX6_toggleFlow G l _ _ _ _ hw) mo_X6_toggleFlow ml_X0_80 (by rfl) rfl rfl (as := [(0, x8)]) rfl rfl rfl rfl rfl ⟨Nat.zero_le _, Nat.zero_le _⟩ dX0_happen_61 (fun h9 hw => ?_)
      exact V.vret hc hr dX0_happen_64 hw
theorem qX0_happen (G : GG) (l : Launch) (o : Int) (a1 : Int) (h : HP) (P : HP → Prop) (hw : wX0_happen o a1 h P) : CnV l G yX0_happen cX0_happen 2 12 [(10, o), (0, a1)] h P := by
  refine CnV.of (lo := [(10, o), (0, a1)]) (by decide) rfl rfl rfl ?_
  intro p e s m args below meth c hc hr
  have hc : VC G p (rmD 12 0) s m args meth c RX0 cX0_happen 2 12 := hc
  refine V.iload_n hc dX0_happen_0 rfl rfl ?_
  refine V.iconst hc dX0_happen_1 ?_
  obtain ⟨g1, hw⟩ := hw
  refine V.icmp_gt hc (tgt := 31) dX0_happen_2 (by decide) g1 (by omega) (fun c2 => ?_) (fun c2 => ?_)
  · replace hw := hw.1 c2
    exact tX0_happen_31 hc hr  hw
  · replace hw := hw.2 c2
    refine V.aload_n (t := 0) hc dX0_happen_5 rfl rfl ?_
    refine V.gR hc gR_X0_15 (i' := 1) rfl dX0_happen_6 ?_
    refine V.gI hc gI_X0_70 rfl dX0_happen_9 ?_
    obtain ⟨g10, hw⟩ := hw
    refine V.if_le hc (tgt := 31) dX0_happen_12 (by decide) g10 (fun c11 => ?_) (fun c11 => ?_)
    · replace hw := hw.1 c11
      exact tX0_happen_31 hc hr  hw
    · replace hw := hw.2 c11
      refine V.aload_n (t := 0) hc dX0_happen_15 rfl rfl ?_
      refine V.aload_n (t := 0) hc dX0_happen_16 rfl rfl ?_
      refine V.aload_n (t := 0) hc dX0_happen_17 rfl rfl ?_
      refine V.gR hc gR_X0_15 (i' := 1) rfl dX0_happen_18 ?_
      refine V.gI hc gI_X0_70 rfl dX0_happen_21 ?_
      refine V.callVI hc (qX0_draw G l _ _ _ _ hw) mo_X0_draw ml_X0_56 (by rfl) rfl rfl (as := [(0, h 8 1 0)]) rfl rfl rfl rfl rfl ⟨Nat.zero_le _, Nat.zero_le _⟩ dX0_happen_24 (fun x13 h12 hw => ?_)
      refine V.iload_n hc dX0_happen_27 rfl rfl ?_
      refine V.callVV hc (qX0_happenTo G l _ _ _ _ _ hw) mo_X0_happenTo ml_X0_73 (by rfl) rfl rfl (as := [(0, x13), (0, a1)]) rfl rfl rfl rfl rfl ⟨Nat.zero_le _, Nat.zero_le _⟩ dX0_happen_28 (fun h14 hw => ?_)
      exact tX0_happen_31 hc hr  hw
theorem tX6_allSent_4 {G : GG} {p : Program} {l : Launch} {e : Jvm.Env} {s : State} {m : MethodId} {args : Array Value} {below : List Frame} {meth : Method} {c : Code} {P : Int → HP → Prop} (hc : VC G p (rmD 8 0) s m args meth c RX6 cX6_allSent 3 8) (hr : meth.sig.returnType = some .int) {o : Int} {h : HP} {K45 : Int → Prop} (hK45 : ∀ (x1 : Int), K45 x1 → V G p l e (rmD 8 0) s m args below meth c (MQ below (QI G P) args s 0 0 (va_Aof G)) 3 45 [(1, 0), (0, x1), (1, 0)] [] h 0) : ∀ (f : Nat) (l1 : Int) (l2 : Int), wX6_allSent_4 o h K45 f l1 l2 → V G p l e (rmD 8 0) s m args below meth c (MQ below (QI G P) args s 0 0 (va_Aof G)) 3 4 [(16, o), (0, l1), (0, l2)] [] h 0 := by
  intro f
  induction f with
  | zero =>
    intro l1 l2 hw
    exact hw.elim
  | succ f ih =>
    intro l1 l2 hw
    refine V.iload_n hc dX6_allSent_4 rfl rfl ?_
    refine V.aload_n (t := 6) hc dX6_allSent_5 rfl rfl ?_
    refine V.gR hc gR_X6_68 (i' := 1) rfl dX6_allSent_6 ?_
    refine V.gR hc gR_X6_117 (i' := 1) rfl dX6_allSent_9 ?_
    refine V.bipush hc dX6_allSent_12 (by decide) ?_
    refine V.ald hc ak_38 (by omega) dX6_allSent_14 ?_
    obtain ⟨g1, hw⟩ := hw
    obtain ⟨g2, hw⟩ := hw
    refine V.icmp_ge hc (tgt := 45) dX6_allSent_15 (by decide) g1 g2 (fun c3 => ?_) (fun c3 => ?_)
    · replace hw := hw.1 c3
      refine V.drop (lo' := [(1, 0), (0, l1), (1, 0)]) ⟨Or.inl rfl, Or.inr rfl, Or.inl rfl, trivial⟩ ?_
      exact hK45 _ hw
    · replace hw := hw.2 c3
      refine V.iload_n hc dX6_allSent_18 rfl rfl ?_
      refine V.aload_n (t := 6) hc dX6_allSent_19 rfl rfl ?_
      refine V.gR hc gR_X6_30 (i' := o) rfl dX6_allSent_20 ?_
      refine V.aload_n (t := 6) hc dX6_allSent_23 rfl rfl ?_
      refine V.gR hc gR_X6_68 (i' := 1) rfl dX6_allSent_24 ?_
      refine V.gR hc gR_X6_120 (i' := 1) rfl dX6_allSent_27 ?_
      refine V.sipush hc dX6_allSent_30 (by decide) ?_
      refine V.iload_n hc dX6_allSent_33 rfl rfl ?_
      refine V.iadd hc dX6_allSent_34 ?_
      obtain ⟨g4, hw⟩ := hw
      refine V.ald hc ak_39 g4 dX6_allSent_35 ?_
      obtain ⟨g5, hw⟩ := hw
      refine V.ald hc ak_24 g5 dX6_allSent_36 ?_
      refine V.iadd hc dX6_allSent_37 ?_
      refine V.istore_n hc dX6_allSent_38 rfl rfl (lo' := [(16, o), (0, l1 + (h 24 o (h 39 1 (144 + l2)))), (0, l2)]) rfl ?_
      refine V.iinc hc dX6_allSent_39 rfl rfl (lo' := [(16, o), (0, l1 + (h 24 o (h 39 1 (144 + l2)))), (0, l2 + 1)]) rfl ?_
      refine V.goto hc (tgt := 4) dX6_allSent_42 (by decide) ?_
      exact ih _ _ hw
theorem qX6_allSent (G : GG) (l : Launch) (o : Int) (h : HP) (P : Int → HP → Prop) (hw : wX6_allSent o h P) : CnI l G yX6_allSent cX6_allSent 3 (some .int) 8 [(16, o)] h P := by
  refine CnI.of (lo := [(16, o), (1, 0), (1, 0)]) (by decide) rfl rfl rfl ?_
  intro p e s m args below meth c hc hr
  have hc : VC G p (rmD 8 0) s m args meth c RX6 cX6_allSent 3 8 := hc
  refine V.iconst hc dX6_allSent_0 ?_
  refine V.istore_n hc dX6_allSent_1 rfl rfl (lo' := [(16, o), (0, 0), (1, 0)]) rfl ?_
  refine V.iconst hc dX6_allSent_2 ?_
  refine V.istore_n hc dX6_allSent_3 rfl rfl (lo' := [(16, o), (0, 0), (0, 0)]) rfl ?_
  obtain ⟨f6, hw⟩ := hw
  refine tX6_allSent_4 hc hr ?_ f6 _ _ hw
  · intro l7 hw
    refine V.iload_n hc dX6_allSent_45 rfl rfl ?_
    exact V.iret hc hr dX6_allSent_46 hw
theorem tX6_allLost_4 {G : GG} {p : Program} {l : Launch} {e : Jvm.Env} {s : State} {m : MethodId} {args : Array Value} {below : List Frame} {meth : Method} {c : Code} {P : Int → HP → Prop} (hc : VC G p (rmD 8 0) s m args meth c RX6 cX6_allLost 3 8) (hr : meth.sig.returnType = some .int) {o : Int} {h : HP} {K30 : Int → Prop} (hK30 : ∀ (x1 : Int), K30 x1 → V G p l e (rmD 8 0) s m args below meth c (MQ below (QI G P) args s 0 0 (va_Aof G)) 3 30 [(1, 0), (0, x1), (1, 0)] [] h 0) : ∀ (f : Nat) (l1 : Int) (l2 : Int), wX6_allLost_4 o h K30 f l1 l2 → V G p l e (rmD 8 0) s m args below meth c (MQ below (QI G P) args s 0 0 (va_Aof G)) 3 4 [(16, o), (0, l1), (0, l2)] [] h 0 := by
  intro f
  induction f with
  | zero =>
    intro l1 l2 hw
    exact hw.elim
  | succ f ih =>
    intro l1 l2 hw
    refine V.iload_n hc dX6_allLost_4 rfl rfl ?_
    refine V.aload_n (t := 6) hc dX6_allLost_5 rfl rfl ?_
    refine V.gR hc gR_X6_68 (i' := 1) rfl dX6_allLost_6 ?_
    refine V.gI hc gI_X6_96 rfl dX6_allLost_9 ?_
    obtain ⟨g1, hw⟩ := hw
    obtain ⟨g2, hw⟩ := hw
    refine V.icmp_ge hc (tgt := 30) dX6_allLost_12 (by decide) g1 g2 (fun c3 => ?_) (fun c3 => ?_)
    · replace hw := hw.1 c3
      refine V.drop (lo' := [(1, 0), (0, l1), (1, 0)]) ⟨Or.inl rfl, Or.inr rfl, Or.inl rfl, trivial⟩ ?_
      exact hK30 _ hw
    · replace hw := hw.2 c3
      refine V.iload_n hc dX6_allLost_15 rfl rfl ?_
      refine V.aload_n (t := 6) hc dX6_allLost_16 rfl rfl ?_
      refine V.gR hc gR_X6_43 (i' := o) rfl dX6_allLost_17 ?_
      refine V.iload_n hc dX6_allLost_20 rfl rfl ?_
      obtain ⟨g4, hw⟩ := hw
      refine V.ald hc ak_28 g4 dX6_allLost_21 ?_
      refine V.iadd hc dX6_allLost_22 ?_
      refine V.istore_n hc dX6_allLost_23 rfl rfl (lo' := [(16, o), (0, l1 + (h 28 o l2)), (0, l2)]) rfl ?_
      refine V.iinc hc dX6_allLost_24 rfl rfl (lo' := [(16, o), (0, l1 + (h 28 o l2)), (0, l2 + 1)]) rfl ?_
      refine V.goto hc (tgt := 4) dX6_allLost_27 (by decide) ?_
      exact ih _ _ hw
theorem qX6_allLost (G : GG) (l : Launch) (o : Int) (h : HP) (P : Int → HP → Prop) (hw : wX6_allLost o h P) : CnI l G yX6_allLost cX6_allLost 3 (some .int) 8 [(16, o)] h P := by
  refine CnI.of (lo := [(16, o), (1, 0), (1, 0)]) (by decide) rfl rfl rfl ?_
  intro p e s m args below meth c hc hr
  have hc : VC G p (rmD 8 0) s m args meth c RX6 cX6_allLost 3 8 := hc
  refine V.iconst hc dX6_allLost_0 ?_
  refine V.istore_n hc dX6_allLost_1 rfl rfl (lo' := [(16, o), (0, 0), (1, 0)]) rfl ?_
  refine V.iconst hc dX6_allLost_2 ?_
  refine V.istore_n hc dX6_allLost_3 rfl rfl (lo' := [(16, o), (0, 0), (0, 0)]) rfl ?_
  obtain ⟨f5, hw⟩ := hw
  refine tX6_allLost_4 hc hr ?_ f5 _ _ hw
  · intro l6 hw
    refine V.iload_n hc dX6_allLost_30 rfl rfl ?_
    exact V.iret hc hr dX6_allLost_31 hw
theorem tX0_liveThrough_22 {G : GG} {p : Program} {l : Launch} {e : Jvm.Env} {s : State} {m : MethodId} {args : Array Value} {below : List Frame} {meth : Method} {c : Code} {P : Int → HP → Prop} (hc : VC G p (rmD 13 0) s m args meth c RX0 cX0_liveThrough 6 13) (hr : meth.sig.returnType = some .int) {o : Int} {a1 : Int} {a2 : Int} {a3 : Int} {K85 : Int → HP → Prop} (hK85 : ∀ (x4 : Int) (h : HP), K85 x4 h → V G p l e (rmD 13 0) s m args below meth c (MQ below (QI G P) args s 0 0 (va_Aof G)) 6 85 [(10, o), (1, 0), (1, 0), (0, a3), (0, x4), (1, 0)] [] h 0) : ∀ (f : Nat) (l4 : Int) (l5 : Int) (h : HP), wX0_liveThrough_22 o a1 a2 a3 K85 f l4 l5 h → V G p l e (rmD 13 0) s m args below meth c (MQ below (QI G P) args s 0 0 (va_Aof G)) 6 22 [(10, o), (1, 0), (0, a2), (0, a3), (0, l4), (0, l5)] [] h 0 := by
  intro f
  induction f with
  | zero =>
    intro l4 l5 h hw
    exact hw.elim
  | succ f ih =>
    intro l4 l5 h hw
    refine V.iload hc dX0_liveThrough_22 rfl ?_
    refine V.iload_n hc dX0_liveThrough_24 rfl rfl ?_
    obtain ⟨g3, hw⟩ := hw
    obtain ⟨g4, hw⟩ := hw
    refine V.icmp_ge hc (tgt := 85) dX0_liveThrough_25 (by decide) g3 g4 (fun c5 => ?_) (fun c5 => ?_)
    · replace hw := hw.1 c5
      refine V.drop (lo' := [(10, o), (1, 0), (1, 0), (0, a3), (0, l4), (1, 0)]) ⟨Or.inr rfl, Or.inr rfl, Or.inl rfl, Or.inr rfl, Or.inr rfl, Or.inl rfl, trivial⟩ ?_
      exact hK85 _ _ hw
    · replace hw := hw.2 c5
      refine V.aload_n (t := 0) hc dX0_liveThrough_28 rfl rfl ?_
      refine V.aload_n (t := 0) hc dX0_liveThrough_29 rfl rfl ?_
      refine V.bipush hc dX0_liveThrough_30 (by decide) ?_
      refine V.callVI hc (qX0_draw G l _ _ _ _ hw) mo_X0_draw ml_X0_56 (by rfl) rfl rfl (as := [(0, 6)]) rfl rfl rfl rfl rfl ⟨Nat.zero_le _, Nat.zero_le _⟩ dX0_liveThrough_32 (fun x7 h6 hw => ?_)
      refine V.callVV hc (qX0_happen G l _ _ _ _ hw) mo_X0_happen ml_X0_60 (by rfl) rfl rfl (as := [(0, x7)]) rfl rfl rfl rfl rfl ⟨Nat.zero_le _, Nat.zero_le _⟩ dX0_liveThrough_35 (fun h8 hw => ?_)
      refine V.aload_n (t := 0) hc dX0_liveThrough_38 rfl rfl ?_
      refine V.gR hc gR_X0_23 (i' := 12) rfl dX0_liveThrough_39 ?_
      refine V.bipush hc dX0_liveThrough_42 (by decide) ?_
      refine V.callVV hc (qX6_pass G l _ _ _ _ hw) mo_X6_pass ml_X0_48 (by rfl) rfl rfl (as := [(0, 10)]) rfl rfl rfl rfl rfl ⟨Nat.zero_le _, Nat.zero_le _⟩ dX0_liveThrough_44 (fun h9 hw => ?_)
      refine V.aload_n (t := 0) hc dX0_liveThrough_47 rfl rfl ?_
      refine V.gR hc gR_X0_23 (i' := 12) rfl dX0_liveThrough_48 ?_
      refine V.gR hc gR_X0_52 (i' := 12) rfl dX0_liveThrough_51 ?_
      refine V.bipush hc dX0_liveThrough_54 (by decide) ?_
      refine V.ald hc ak_29 (by omega) dX0_liveThrough_56 ?_
      refine V.iload hc dX0_liveThrough_57 rfl ?_
      obtain ⟨q13, hw⟩ := hw
      have kJ14 : ∀ t12 : Int, ((h9 29 12 12 ≤ l4 → t12 = l4) ∧ (¬ h9 29 12 12 ≤ l4 → t12 = h9 29 12 12)) → V G p l e (rmD 13 0) s m args below meth c (MQ below (QI G P) args s 0 0 (va_Aof G)) 6 77 [(10, o), (1, 0), (0, a2), (0, a3), (1, 0), (0, l5)] [(0, t12)] h9 0 := by
        intro t12 he
        replace hw := hw t12 he
        clear he
        refine V.istore hc dX0_liveThrough_77 rfl (lo' := [(10, o), (1, 0), (0, a2), (0, a3), (0, t12), (0, l5)]) rfl ?_
        refine V.iinc hc dX0_liveThrough_79 rfl rfl (lo' := [(10, o), (1, 0), (0, a2), (0, a3), (0, t12), (0, l5 + 1)]) rfl ?_
        refine V.goto hc (tgt := 22) dX0_liveThrough_82 (by decide) ?_
        exact ih _ _ _ hw
      obtain ⟨g10, g11⟩ := q13
      refine V.icmp_le hc (tgt := 75) dX0_liveThrough_59 (by decide) g10 g11 (fun c15 => ?_) (fun c15 => ?_)
      · refine V.iload hc dX0_liveThrough_75 rfl ?_
        refine V.drop (lo' := [(10, o), (1, 0), (0, a2), (0, a3), (1, 0), (0, l5)]) ⟨Or.inr rfl, Or.inr rfl, Or.inr rfl, Or.inr rfl, Or.inl rfl, Or.inr rfl, trivial⟩ ?_
        exact kJ14 _ ⟨fun _ => rfl, (fun q => absurd c15 q)⟩
      · refine V.aload_n (t := 0) hc dX0_liveThrough_62 rfl rfl ?_
        refine V.gR hc gR_X0_23 (i' := 12) rfl dX0_liveThrough_63 ?_
        refine V.gR hc gR_X0_52 (i' := 12) rfl dX0_liveThrough_66 ?_
        refine V.bipush hc dX0_liveThrough_69 (by decide) ?_
        refine V.ald hc ak_29 (by omega) dX0_liveThrough_71 ?_
        refine V.goto hc (tgt := 77) dX0_liveThrough_72 (by decide) ?_
        refine V.drop (lo' := [(10, o), (1, 0), (0, a2), (0, a3), (1, 0), (0, l5)]) ⟨Or.inr rfl, Or.inr rfl, Or.inr rfl, Or.inr rfl, Or.inl rfl, Or.inr rfl, trivial⟩ ?_
        exact kJ14 _ ⟨(fun q => absurd q c15), fun _ => rfl⟩
theorem qX0_liveThrough (G : GG) (l : Launch) (o : Int) (a1 : Int) (a2 : Int) (a3 : Int) (h : HP) (P : Int → HP → Prop) (hw : wX0_liveThrough o a1 a2 a3 h P) : CnI l G yX0_liveThrough cX0_liveThrough 6 (some .int) 13 [(10, o), (0, a1), (0, a2), (0, a3)] h P := by
  refine CnI.of (lo := [(10, o), (0, a1), (0, a2), (0, a3), (1, 0), (1, 0)]) (by decide) rfl rfl rfl ?_
  intro p e s m args below meth c hc hr
  have hc : VC G p (rmD 13 0) s m args meth c RX0 cX0_liveThrough 6 13 := hc
  refine V.aload_n (t := 0) hc dX0_liveThrough_0 rfl rfl ?_
  refine V.iload_n hc dX0_liveThrough_1 rfl rfl ?_
  refine V.pI hc pI_X0_9 rfl dX0_liveThrough_2 (fun h1 e => ?_)
  replace hw := hw h1 e
  clear e
  refine V.aload_n (t := 0) hc dX0_liveThrough_5 rfl rfl ?_
  refine V.gR hc gR_X0_23 (i' := 12) rfl dX0_liveThrough_6 ?_
  refine V.aload_n (t := 0) hc dX0_liveThrough_9 rfl rfl ?_
  refine V.gR hc gR_X0_19 (i' := 10) rfl dX0_liveThrough_10 ?_
  refine V.callVV hc (qX6_copyFrom G l _ _ _ _ hw) mo_X6_copyFrom ml_X0_30 (by rfl) rfl rfl (as := [(16, 10)]) rfl rfl rfl rfl rfl ⟨Nat.zero_le _, Nat.zero_le _⟩ dX0_liveThrough_13 (fun h2 hw => ?_)
  refine V.iconst hc dX0_liveThrough_16 ?_
  refine V.istore hc dX0_liveThrough_17 rfl (lo' := [(10, o), (0, a1), (0, a2), (0, a3), (0, 0), (1, 0)]) rfl ?_
  refine V.iconst hc dX0_liveThrough_19 ?_
  refine V.istore hc dX0_liveThrough_20 rfl (lo' := [(10, o), (0, a1), (0, a2), (0, a3), (0, 0), (0, 0)]) rfl ?_
  obtain ⟨f16, hw⟩ := hw
  refine V.drop (lo' := [(10, o), (1, 0), (0, a2), (0, a3), (0, 0), (0, 0)]) ⟨Or.inr rfl, Or.inl rfl, Or.inr rfl, Or.inr rfl, Or.inr rfl, Or.inr rfl, trivial⟩ ?_
  refine tX0_liveThrough_22 hc hr ?_ f16 _ _ _ hw
  · intro l17 h18 hw
    refine V.iload_n hc dX0_liveThrough_85 rfl rfl ?_
    obtain ⟨g19, hw⟩ := hw
    by_cases c20 : a3 = 0
    · replace hw := hw.1 c20
      refine V.lsw hc (off := 26) (tgt := 112) g19 dX0_liveThrough_86 (by decide) (by rw [c20] <;> first | rfl | decide) (by decide) ?_
      refine V.aload_n (t := 0) hc dX0_liveThrough_112 rfl rfl ?_
      refine V.gR hc gR_X0_23 (i' := 12) rfl dX0_liveThrough_113 ?_
      refine V.callVI hc (qX6_allSent G l _ _ _ hw) mo_X6_allSent ml_X0_63 (by rfl) rfl rfl (as := []) rfl rfl rfl rfl rfl ⟨Nat.zero_le _, Nat.zero_le _⟩ dX0_liveThrough_116 (fun x22 h21 hw => ?_)
      refine V.aload_n (t := 0) hc dX0_liveThrough_119 rfl rfl ?_
      refine V.gR hc gR_X0_19 (i' := 10) rfl dX0_liveThrough_120 ?_
      refine V.callVI hc (qX6_allSent G l _ _ _ hw) mo_X6_allSent ml_X0_63 (by rfl) rfl rfl (as := []) rfl rfl rfl rfl rfl ⟨Nat.zero_le _, Nat.zero_le _⟩ dX0_liveThrough_123 (fun x24 h23 hw => ?_)
      refine V.isub hc dX0_liveThrough_126 ?_
      exact V.iret hc hr dX0_liveThrough_127 hw
    replace hw := hw.2 c20
    by_cases c25 : a3 = 1
    · replace hw := hw.1 c25
      refine V.lsw hc (off := 42) (tgt := 128) g19 dX0_liveThrough_86 (by decide) (by rw [c25] <;> first | rfl | decide) (by decide) ?_
      refine V.aload_n (t := 0) hc dX0_liveThrough_128 rfl rfl ?_
      refine V.gR hc gR_X0_23 (i' := 12) rfl dX0_liveThrough_129 ?_
      refine V.callVI hc (qX6_allLost G l _ _ _ hw) mo_X6_allLost ml_X0_67 (by rfl) rfl rfl (as := []) rfl rfl rfl rfl rfl ⟨Nat.zero_le _, Nat.zero_le _⟩ dX0_liveThrough_132 (fun x27 h26 hw => ?_)
      refine V.aload_n (t := 0) hc dX0_liveThrough_135 rfl rfl ?_
      refine V.gR hc gR_X0_19 (i' := 10) rfl dX0_liveThrough_136 ?_
      refine V.callVI hc (qX6_allLost G l _ _ _ hw) mo_X6_allLost ml_X0_67 (by rfl) rfl rfl (as := []) rfl rfl rfl rfl rfl ⟨Nat.zero_le _, Nat.zero_le _⟩ dX0_liveThrough_139 (fun x29 h28 hw => ?_)
      refine V.isub hc dX0_liveThrough_142 ?_
      exact V.iret hc hr dX0_liveThrough_143 hw
    replace hw := hw.2 c25
    refine V.lsw hc (off := 58) (tgt := 144) g19 dX0_liveThrough_86 (by decide) (by simp only [Op.lookupswitch.offset_cons]; rw [if_neg (fun e => c20 e.symm), if_neg (fun e => c25 e.symm)] <;> rfl) (by decide) ?_
    refine V.iload hc dX0_liveThrough_144 rfl ?_
    exact V.iret hc hr dX0_liveThrough_146 hw
theorem qX1_isWell (G : GG) (l : Launch) (a0 : Int) (a1 : Int) (a2 : Int) (h : HP) (P : Int → HP → Prop) (hw : wX1_isWell a0 a1 a2 h P) : CnI l G yX1_isWell cX1_isWell 3 (some .boolean) 8 [(0, a0), (0, a1), (0, a2)] h P := by
  refine CnI.of (lo := [(0, a0), (0, a1), (0, a2)]) (by decide) rfl rfl rfl ?_
  intro p e s m args below meth c hc hr
  have hc : VC G p (rmD 8 0) s m args meth c RX1 cX1_isWell 3 8 := hc
  refine V.iload_n hc dX1_isWell_0 rfl rfl ?_
  obtain ⟨q8, hw⟩ := hw
  have kJ10 : ∀ t7 : Int, ((a0 < 0 → t7 = 0) ∧ (¬ a0 < 0 → ((100 < a0 → t7 = 0) ∧ (¬ 100 < a0 → ((a1 < 0 → t7 = 0) ∧ (¬ a1 < 0 → ((30 < a1 → t7 = 0) ∧ (¬ 30 < a1 → ((a2 < 1 → t7 = 0) ∧ (¬ a2 < 1 → ((100 < a2 → t7 = 0) ∧ (¬ 100 < a2 → t7 = 1)))))))))))) → V G p l e (rmD 8 0) s m args below meth c (MQ below (QI G P) args s 0 0 (va_Aof G)) 3 36 [(1, 0), (1, 0), (1, 0)] [(0, t7)] h 0 := by
    intro t7 he
    replace hw := hw t7 he
    clear he
    obtain ⟨g9, hw⟩ := hw
    exact V.zret hc hr dX1_isWell_36 g9 hw
  obtain ⟨g1, q11⟩ := q8
  refine V.if_lt hc (tgt := 35) dX1_isWell_1 (by decide) g1 (fun c12 => ?_) (fun c12 => ?_)
  · refine V.iconst hc dX1_isWell_35 ?_
    refine V.drop (lo' := [(1, 0), (1, 0), (1, 0)]) ⟨Or.inl rfl, Or.inl rfl, Or.inl rfl, trivial⟩ ?_
    exact kJ10 _ ⟨fun _ => rfl, (fun q => absurd c12 q)⟩
  · have q13 := q11 c12
    obtain ⟨g2, q14⟩ := q13
    refine V.iload_n hc dX1_isWell_4 rfl rfl ?_
    refine V.bipush hc dX1_isWell_5 (by decide) ?_
    refine V.icmp_gt hc (tgt := 35) dX1_isWell_7 (by decide) g2 (by omega) (fun c15 => ?_) (fun c15 => ?_)
    · refine V.iconst hc dX1_isWell_35 ?_
      refine V.drop (lo' := [(1, 0), (1, 0), (1, 0)]) ⟨Or.inl rfl, Or.inl rfl, Or.inl rfl, trivial⟩ ?_
      exact kJ10 _ ⟨(fun q => absurd q c12), fun _ => ⟨fun _ => rfl, (fun q => absurd c15 q)⟩⟩
    · have q16 := q14 c15
      obtain ⟨g3, q17⟩ := q16
      refine V.iload_n hc dX1_isWell_10 rfl rfl ?_
      refine V.if_lt hc (tgt := 35) dX1_isWell_11 (by decide) g3 (fun c18 => ?_) (fun c18 => ?_)
      · refine V.iconst hc dX1_isWell_35 ?_
        refine V.drop (lo' := [(1, 0), (1, 0), (1, 0)]) ⟨Or.inl rfl, Or.inl rfl, Or.inl rfl, trivial⟩ ?_
        exact kJ10 _ ⟨(fun q => absurd q c12), fun _ => ⟨(fun q => absurd q c15), fun _ => ⟨fun _ => rfl, (fun q => absurd c18 q)⟩⟩⟩
      · have q19 := q17 c18
        obtain ⟨g4, q20⟩ := q19
        refine V.iload_n hc dX1_isWell_14 rfl rfl ?_
        refine V.bipush hc dX1_isWell_15 (by decide) ?_
        refine V.icmp_gt hc (tgt := 35) dX1_isWell_17 (by decide) g4 (by omega) (fun c21 => ?_) (fun c21 => ?_)
        · refine V.iconst hc dX1_isWell_35 ?_
          refine V.drop (lo' := [(1, 0), (1, 0), (1, 0)]) ⟨Or.inl rfl, Or.inl rfl, Or.inl rfl, trivial⟩ ?_
          exact kJ10 _ ⟨(fun q => absurd q c12), fun _ => ⟨(fun q => absurd q c15), fun _ => ⟨(fun q => absurd q c18), fun _ => ⟨fun _ => rfl, (fun q => absurd c21 q)⟩⟩⟩⟩
        · have q22 := q20 c21
          obtain ⟨g5, q23⟩ := q22
          refine V.iload_n hc dX1_isWell_20 rfl rfl ?_
          refine V.iconst hc dX1_isWell_21 ?_
          refine V.icmp_lt hc (tgt := 35) dX1_isWell_22 (by decide) g5 (by omega) (fun c24 => ?_) (fun c24 => ?_)
          · refine V.iconst hc dX1_isWell_35 ?_
            refine V.drop (lo' := [(1, 0), (1, 0), (1, 0)]) ⟨Or.inl rfl, Or.inl rfl, Or.inl rfl, trivial⟩ ?_
            exact kJ10 _ ⟨(fun q => absurd q c12), fun _ => ⟨(fun q => absurd q c15), fun _ => ⟨(fun q => absurd q c18), fun _ => ⟨(fun q => absurd q c21), fun _ => ⟨fun _ => rfl, (fun q => absurd c24 q)⟩⟩⟩⟩⟩
          · have q25 := q23 c24
            have g6 := q25
            refine V.iload_n hc dX1_isWell_25 rfl rfl ?_
            refine V.bipush hc dX1_isWell_26 (by decide) ?_
            refine V.icmp_gt hc (tgt := 35) dX1_isWell_28 (by decide) g6 (by omega) (fun c26 => ?_) (fun c26 => ?_)
            · refine V.iconst hc dX1_isWell_35 ?_
              refine V.drop (lo' := [(1, 0), (1, 0), (1, 0)]) ⟨Or.inl rfl, Or.inl rfl, Or.inl rfl, trivial⟩ ?_
              exact kJ10 _ ⟨(fun q => absurd q c12), fun _ => ⟨(fun q => absurd q c15), fun _ => ⟨(fun q => absurd q c18), fun _ => ⟨(fun q => absurd q c21), fun _ => ⟨(fun q => absurd q c24), fun _ => ⟨fun _ => rfl, (fun q => absurd c26 q)⟩⟩⟩⟩⟩⟩
            · refine V.iconst hc dX1_isWell_31 ?_
              refine V.goto hc (tgt := 36) dX1_isWell_32 (by decide) ?_
              refine V.drop (lo' := [(1, 0), (1, 0), (1, 0)]) ⟨Or.inl rfl, Or.inl rfl, Or.inl rfl, trivial⟩ ?_
              exact kJ10 _ ⟨(fun q => absurd q c12), fun _ => ⟨(fun q => absurd q c15), fun _ => ⟨(fun q => absurd q c18), fun _ => ⟨(fun q => absurd q c21), fun _ => ⟨(fun q => absurd q c24), fun _ => ⟨(fun q => absurd q c26), fun _ => rfl⟩⟩⟩⟩⟩⟩
theorem qX1_drop (G : GG) (l : Launch) (o : Int) (a1 : Int) (h : HP) (P : HP → Prop) (hw : wX1_drop o a1 h P) : CnV l G yX1_drop cX1_drop 2 8 [(11, o), (0, a1)] h P := by
  refine CnV.of (lo := [(11, o), (0, a1)]) (by decide) rfl rfl rfl ?_
  intro p e s m args below meth c hc hr
  have hc : VC G p (rmD 8 0) s m args meth c RX1 cX1_drop 2 8 := hc
  refine V.aload_n (t := 1) hc dX1_drop_0 rfl rfl ?_
  refine V.gR hc gR_X1_18 (i' := o) rfl dX1_drop_1 ?_
  refine V.iload_n hc dX1_drop_4 rfl rfl ?_
  refine V.iconst hc dX1_drop_5 ?_
  obtain ⟨g2, hw⟩ := hw
  refine V.ast hc ak_15 g2 dX1_drop_6 (fun h1 e => ?_)
  replace hw := hw h1 e
  clear e
  refine V.aload_n (t := 1) hc dX1_drop_7 rfl rfl ?_
  refine V.gR hc gR_X1_24 (i' := o) rfl dX1_drop_8 ?_
  refine V.iload_n hc dX1_drop_11 rfl rfl ?_
  refine V.iconst hc dX1_drop_12 ?_
  obtain ⟨g4, hw⟩ := hw
  refine V.ast hc ak_17 g4 dX1_drop_13 (fun h3 e => ?_)
  replace hw := hw h3 e
  clear e
  exact V.vret hc hr dX1_drop_14 hw
theorem tX1_clear_2 {G : GG} {p : Program} {l : Launch} {e : Jvm.Env} {s : State} {m : MethodId} {args : Array Value} {below : List Frame} {meth : Method} {c : Code} {P : HP → Prop} (hc : VC G p (rmD 9 0) s m args meth c RX1 cX1_clear 2 9) (hr : meth.sig.returnType = none) {o : Int} {K19 : HP → Prop} (hK19 : ∀  (h : HP), K19  h → V G p l e (rmD 9 0) s m args below meth c (MQ below (QV G P) args s 0 0 (va_Aof G)) 2 19 [(1, 0), (1, 0)] [] h 0) : ∀ (f : Nat) (l1 : Int) (h : HP), wX1_clear_2 o K19 f l1 h → V G p l e (rmD 9 0) s m args below meth c (MQ below (QV G P) args s 0 0 (va_Aof G)) 2 2 [(11, o), (0, l1)] [] h 0 := by
  intro f
  induction f with
  | zero =>
    intro l1 h hw
    exact hw.elim
  | succ f ih =>
    intro l1 h hw
    refine V.iload_n hc dX1_clear_2 rfl rfl ?_
    refine V.bipush hc dX1_clear_3 (by decide) ?_
    obtain ⟨g1, hw⟩ := hw
    refine V.icmp_ge hc (tgt := 19) dX1_clear_5 (by decide) g1 (by omega) (fun c2 => ?_) (fun c2 => ?_)
    · replace hw := hw.1 c2
      refine V.drop (lo' := [(1, 0), (1, 0)]) ⟨Or.inl rfl, Or.inl rfl, trivial⟩ ?_
      exact hK19 _ hw
    · replace hw := hw.2 c2
      refine V.aload_n (t := 1) hc dX1_clear_8 rfl rfl ?_
      refine V.iload_n hc dX1_clear_9 rfl rfl ?_
      refine V.callVV hc (qX1_drop G l _ _ _ _ hw) mo_X1_drop ml_X1_33 (by rfl) rfl rfl (as := [(0, l1)]) rfl rfl rfl rfl rfl ⟨Nat.zero_le _, Nat.zero_le _⟩ dX1_clear_10 (fun h3 hw => ?_)
      refine V.iinc hc dX1_clear_13 rfl rfl (lo' := [(11, o), (0, l1 + 1)]) rfl ?_
      refine V.goto hc (tgt := 2) dX1_clear_16 (by decide) ?_
      exact ih _ _ hw
theorem qX1_clear (G : GG) (l : Launch) (o : Int) (h : HP) (P : HP → Prop) (hw : wX1_clear o h P) : CnV l G yX1_clear cX1_clear 2 9 [(11, o)] h P := by
  refine CnV.of (lo := [(11, o), (1, 0)]) (by decide) rfl rfl rfl ?_
  intro p e s m args below meth c hc hr
  have hc : VC G p (rmD 9 0) s m args meth c RX1 cX1_clear 2 9 := hc
  refine V.iconst hc dX1_clear_0 ?_
  refine V.istore_n hc dX1_clear_1 rfl rfl (lo' := [(11, o), (0, 0)]) rfl ?_
  obtain ⟨f4, hw⟩ := hw
  refine tX1_clear_2 hc hr ?_ f4 _ _ hw
  · intro h5 hw
    exact V.vret hc hr dX1_clear_19 hw
theorem qX1_isSo (G : GG) (l : Launch) (o : Int) (a1 : Int) (a2 : Int) (a3 : Int) (a4 : Int) (h : HP) (P : Int → HP → Prop) (hw : wX1_isSo o a1 a2 a3 a4 h P) : CnI l G yX1_isSo cX1_isSo 5 (some .boolean) 8 [(11, o), (0, a1), (0, a2), (0, a3), (0, a4)] h P := by
  refine CnI.of (lo := [(11, o), (0, a1), (0, a2), (0, a3), (0, a4)]) (by decide) rfl rfl rfl ?_
  intro p e s m args below meth c hc hr
  have hc : VC G p (rmD 8 0) s m args meth c RX1 cX1_isSo 5 8 := hc
  refine V.aload_n (t := 1) hc dX1_isSo_0 rfl rfl ?_
  refine V.gR hc gR_X1_11 (i' := o) rfl dX1_isSo_1 ?_
  refine V.iload_n hc dX1_isSo_4 rfl rfl ?_
  obtain ⟨g1, hw⟩ := hw
  refine V.ald hc ak_13 g1 dX1_isSo_5 ?_
  refine V.iload_n hc dX1_isSo_6 rfl rfl ?_
  obtain ⟨q11, hw⟩ := hw
  have kJ13 : ∀ t10 : Int, ((¬ h 13 o a1 = a2 → t10 = 0) ∧ (h 13 o a1 = a2 → ((¬ h 14 o a1 = a3 → t10 = 0) ∧ (h 14 o a1 = a3 → ((¬ h 15 o a1 = a4 → t10 = 0) ∧ (h 15 o a1 = a4 → t10 = 1)))))) → V G p l e (rmD 8 0) s m args below meth c (MQ below (QI G P) args s 0 0 (va_Aof G)) 5 36 [(1, 0), (1, 0), (1, 0), (1, 0), (1, 0)] [(0, t10)] h 0 := by
    intro t10 he
    replace hw := hw t10 he
    clear he
    obtain ⟨g12, hw⟩ := hw
    exact V.zret hc hr dX1_isSo_36 g12 hw
  obtain ⟨g2, g3, q14⟩ := q11
  refine V.icmp_ne hc (tgt := 35) dX1_isSo_7 (by decide) g2 g3 (fun c15 => ?_) (fun c15 => ?_)
  · refine V.iconst hc dX1_isSo_35 ?_
    refine V.drop (lo' := [(1, 0), (1, 0), (1, 0), (1, 0), (1, 0)]) ⟨Or.inl rfl, Or.inl rfl, Or.inl rfl, Or.inl rfl, Or.inl rfl, trivial⟩ ?_
    exact kJ13 _ ⟨fun _ => rfl, (fun q => absurd q c15)⟩
  · have q16 := q14 c15
    obtain ⟨g4, g5, g6, q17⟩ := q16
    refine V.aload_n (t := 1) hc dX1_isSo_10 rfl rfl ?_
    refine V.gR hc gR_X1_15 (i' := o) rfl dX1_isSo_11 ?_
    refine V.iload_n hc dX1_isSo_14 rfl rfl ?_
    refine V.ald hc ak_14 g4 dX1_isSo_15 ?_
    refine V.iload_n hc dX1_isSo_16 rfl rfl ?_
    refine V.icmp_ne hc (tgt := 35) dX1_isSo_17 (by decide) g5 g6 (fun c18 => ?_) (fun c18 => ?_)
    · refine V.iconst hc dX1_isSo_35 ?_
      refine V.drop (lo' := [(1, 0), (1, 0), (1, 0), (1, 0), (1, 0)]) ⟨Or.inl rfl, Or.inl rfl, Or.inl rfl, Or.inl rfl, Or.inl rfl, trivial⟩ ?_
      exact kJ13 _ ⟨(fun q => absurd c15 q), fun _ => ⟨fun _ => rfl, (fun q => absurd q c18)⟩⟩
    · have q19 := q17 c18
      obtain ⟨g7, g8, g9⟩ := q19
      refine V.aload_n (t := 1) hc dX1_isSo_20 rfl rfl ?_
      refine V.gR hc gR_X1_18 (i' := o) rfl dX1_isSo_21 ?_
      refine V.iload_n hc dX1_isSo_24 rfl rfl ?_
      refine V.ald hc ak_15 g7 dX1_isSo_25 ?_
      refine V.iload hc dX1_isSo_26 rfl ?_
      refine V.icmp_ne hc (tgt := 35) dX1_isSo_28 (by decide) g8 g9 (fun c20 => ?_) (fun c20 => ?_)
      · refine V.iconst hc dX1_isSo_35 ?_
        refine V.drop (lo' := [(1, 0), (1, 0), (1, 0), (1, 0), (1, 0)]) ⟨Or.inl rfl, Or.inl rfl, Or.inl rfl, Or.inl rfl, Or.inl rfl, trivial⟩ ?_
        exact kJ13 _ ⟨(fun q => absurd c15 q), fun _ => ⟨(fun q => absurd c18 q), fun _ => ⟨fun _ => rfl, (fun q => absurd q c20)⟩⟩⟩
      · refine V.iconst hc dX1_isSo_31 ?_
        refine V.goto hc (tgt := 36) dX1_isSo_32 (by decide) ?_
        refine V.drop (lo' := [(1, 0), (1, 0), (1, 0), (1, 0), (1, 0)]) ⟨Or.inl rfl, Or.inl rfl, Or.inl rfl, Or.inl rfl, Or.inl rfl, trivial⟩ ?_
        exact kJ13 _ ⟨(fun q => absurd c15 q), fun _ => ⟨(fun q => absurd c18 q), fun _ => ⟨(fun q => absurd c20 q), fun _ => rfl⟩⟩⟩
theorem tX1_reachFromZero_63 {G : GG} {p : Program} {l : Launch} {e : Jvm.Env} {s : State} {m : MethodId} {args : Array Value} {below : List Frame} {meth : Method} {c : Code} {P : Int → HP → Prop} (hc : VC G p (rmD 8 0) s m args meth c RX1 cX1_reachFromZero 5 8) (hr : meth.sig.returnType = some .int) {o : Int} {a1 : Int} {a2 : Int} {l3 : Int} {h : HP} (hw : wX1_reachFromZero_63 o a1 a2 l3 P h) : V G p l e (rmD 8 0) s m args below meth c (MQ below (QI G P) args s 0 0 (va_Aof G)) 5 63 [(11, o), (0, a1), (1, 0), (0, l3), (1, 0)] [] h 0 := by
  refine V.iload_n hc dX1_reachFromZero_63 rfl rfl ?_
  obtain ⟨q14, hw⟩ := hw
  have kJ15 : ∀ t13 : Int, ((l3 ≤ 0 → t13 = 0) ∧ (¬ l3 ≤ 0 → ((h 13 o a1 ≤ 0 → t13 = 0) ∧ (¬ h 13 o a1 ≤ 0 → t13 = ((l3 + (h 13 o a1)) - 1) / (h 13 o a1))))) → V G p l e (rmD 8 0) s m args below meth c (MQ below (QI G P) args s 0 0 (va_Aof G)) 5 97 [(1, 0), (1, 0), (1, 0), (1, 0), (1, 0)] [(0, t13)] h 0 := by
    intro t13 he
    replace hw := hw t13 he
    clear he
    exact V.iret hc hr dX1_reachFromZero_97 hw
  obtain ⟨g6, q16⟩ := q14
  refine V.if_le hc (tgt := 96) dX1_reachFromZero_64 (by decide) g6 (fun c17 => ?_) (fun c17 => ?_)
  · refine V.iconst hc dX1_reachFromZero_96 ?_
    refine V.drop (lo' := [(1, 0), (1, 0), (1, 0), (1, 0), (1, 0)]) ⟨Or.inl rfl, Or.inl rfl, Or.inr rfl, Or.inl rfl, Or.inr rfl, trivial⟩ ?_
    exact kJ15 _ ⟨fun _ => rfl, (fun q => absurd c17 q)⟩
  · have q18 := q16 c17
    obtain ⟨g7, g8, q19⟩ := q18
    refine V.aload_n (t := 1) hc dX1_reachFromZero_67 rfl rfl ?_
    refine V.gR hc gR_X1_11 (i' := o) rfl dX1_reachFromZero_68 ?_
    refine V.iload_n hc dX1_reachFromZero_71 rfl rfl ?_
    refine V.ald hc ak_13 g7 dX1_reachFromZero_72 ?_
    refine V.if_le hc (tgt := 96) dX1_reachFromZero_73 (by decide) g8 (fun c20 => ?_) (fun c20 => ?_)
    · refine V.iconst hc dX1_reachFromZero_96 ?_
      refine V.drop (lo' := [(1, 0), (1, 0), (1, 0), (1, 0), (1, 0)]) ⟨Or.inl rfl, Or.inl rfl, Or.inr rfl, Or.inl rfl, Or.inr rfl, trivial⟩ ?_
      exact kJ15 _ ⟨(fun q => absurd q c17), fun _ => ⟨fun _ => rfl, (fun q => absurd c20 q)⟩⟩
    · have q21 := q19 c20
      obtain ⟨g9, g10, g11, g12⟩ := q21
      refine V.iload_n hc dX1_reachFromZero_76 rfl rfl ?_
      refine V.aload_n (t := 1) hc dX1_reachFromZero_77 rfl rfl ?_
      refine V.gR hc gR_X1_11 (i' := o) rfl dX1_reachFromZero_78 ?_
      refine V.iload_n hc dX1_reachFromZero_81 rfl rfl ?_
      refine V.ald hc ak_13 g9 dX1_reachFromZero_82 ?_
      refine V.iadd hc dX1_reachFromZero_83 ?_
      refine V.iconst hc dX1_reachFromZero_84 ?_
      refine V.isub hc dX1_reachFromZero_85 ?_
      refine V.aload_n (t := 1) hc dX1_reachFromZero_86 rfl rfl ?_
      refine V.gR hc gR_X1_11 (i' := o) rfl dX1_reachFromZero_87 ?_
      refine V.iload_n hc dX1_reachFromZero_90 rfl rfl ?_
      refine V.ald hc ak_13 g10 dX1_reachFromZero_91 ?_
      refine V.idiv hc g11 g12 dX1_reachFromZero_92 ?_
      refine V.goto hc (tgt := 97) dX1_reachFromZero_93 (by decide) ?_
      refine V.drop (lo' := [(1, 0), (1, 0), (1, 0), (1, 0), (1, 0)]) ⟨Or.inl rfl, Or.inl rfl, Or.inr rfl, Or.inl rfl, Or.inr rfl, trivial⟩ ?_
      exact kJ15 _ ⟨(fun q => absurd q c17), fun _ => ⟨(fun q => absurd q c20), fun _ => rfl⟩⟩
theorem qX1_reachFromZero (G : GG) (l : Launch) (o : Int) (a1 : Int) (a2 : Int) (h : HP) (P : Int → HP → Prop) (hw : wX1_reachFromZero o a1 a2 h P) : CnI l G yX1_reachFromZero cX1_reachFromZero 5 (some .int) 8 [(11, o), (0, a1), (0, a2)] h P := by
  refine CnI.of (lo := [(11, o), (0, a1), (0, a2), (1, 0), (1, 0)]) (by decide) rfl rfl rfl ?_
  intro p e s m args below meth c hc hr
  have hc : VC G p (rmD 8 0) s m args meth c RX1 cX1_reachFromZero 5 8 := hc
  refine V.bipush hc dX1_reachFromZero_0 (by decide) ?_
  refine V.iload_n hc dX1_reachFromZero_2 rfl rfl ?_
  refine V.imul hc dX1_reachFromZero_3 ?_
  refine V.istore_n hc dX1_reachFromZero_4 rfl rfl (lo' := [(11, o), (0, a1), (0, a2), (0, 100 * a2), (1, 0)]) rfl ?_
  refine V.aload_n (t := 1) hc dX1_reachFromZero_5 rfl rfl ?_
  refine V.gR hc gR_X1_11 (i' := o) rfl dX1_reachFromZero_6 ?_
  refine V.iload_n hc dX1_reachFromZero_9 rfl rfl ?_
  obtain ⟨g1, hw⟩ := hw
  refine V.ald hc ak_13 g1 dX1_reachFromZero_10 ?_
  refine V.aload_n (t := 1) hc dX1_reachFromZero_11 rfl rfl ?_
  refine V.gR hc gR_X1_15 (i' := o) rfl dX1_reachFromZero_12 ?_
  refine V.iload_n hc dX1_reachFromZero_15 rfl rfl ?_
  obtain ⟨g2, hw⟩ := hw
  refine V.ald hc ak_14 g2 dX1_reachFromZero_16 ?_
  refine V.imul hc dX1_reachFromZero_17 ?_
  refine V.istore hc dX1_reachFromZero_18 rfl (lo' := [(11, o), (0, a1), (0, a2), (0, 100 * a2), (0, (h 13 o a1) * (h 14 o a1))]) rfl ?_
  refine V.iload_n hc dX1_reachFromZero_20 rfl rfl ?_
  refine V.iload hc dX1_reachFromZero_21 rfl ?_
  obtain ⟨g3, hw⟩ := hw
  obtain ⟨g4, hw⟩ := hw
  refine V.icmp_le hc (tgt := 63) dX1_reachFromZero_23 (by decide) g3 g4 (fun c5 => ?_) (fun c5 => ?_)
  · replace hw := hw.1 c5
    refine V.drop (lo' := [(11, o), (0, a1), (1, 0), (0, 100 * a2), (1, 0)]) ⟨Or.inr rfl, Or.inr rfl, Or.inl rfl, Or.inr rfl, Or.inl rfl, trivial⟩ ?_
    exact tX1_reachFromZero_63 hc hr  hw
  · replace hw := hw.2 c5
    refine V.aload_n (t := 1) hc dX1_reachFromZero_26 rfl rfl ?_
    refine V.gR hc gR_X1_18 (i' := o) rfl dX1_reachFromZero_27 ?_
    refine V.iload_n hc dX1_reachFromZero_30 rfl rfl ?_
    obtain ⟨g22, hw⟩ := hw
    refine V.ald hc ak_15 g22 dX1_reachFromZero_31 ?_
    obtain ⟨g23, hw⟩ := hw
    refine V.if_le hc (tgt := 63) dX1_reachFromZero_32 (by decide) g23 (fun c24 => ?_) (fun c24 => ?_)
    · replace hw := hw.1 c24
      refine V.drop (lo' := [(11, o), (0, a1), (1, 0), (0, 100 * a2), (1, 0)]) ⟨Or.inr rfl, Or.inr rfl, Or.inl rfl, Or.inr rfl, Or.inl rfl, trivial⟩ ?_
      exact tX1_reachFromZero_63 hc hr  hw
    · replace hw := hw.2 c24
      refine V.aload_n (t := 1) hc dX1_reachFromZero_35 rfl rfl ?_
      refine V.gR hc gR_X1_15 (i' := o) rfl dX1_reachFromZero_36 ?_
      refine V.iload_n hc dX1_reachFromZero_39 rfl rfl ?_
      obtain ⟨g25, hw⟩ := hw
      refine V.ald hc ak_14 g25 dX1_reachFromZero_40 ?_
      refine V.iload_n hc dX1_reachFromZero_41 rfl rfl ?_
      refine V.iload hc dX1_reachFromZero_42 rfl ?_
      refine V.isub hc dX1_reachFromZero_44 ?_
      refine V.aload_n (t := 1) hc dX1_reachFromZero_45 rfl rfl ?_
      refine V.gR hc gR_X1_18 (i' := o) rfl dX1_reachFromZero_46 ?_
      refine V.iload_n hc dX1_reachFromZero_49 rfl rfl ?_
      obtain ⟨g26, hw⟩ := hw
      refine V.ald hc ak_15 g26 dX1_reachFromZero_50 ?_
      refine V.iadd hc dX1_reachFromZero_51 ?_
      refine V.iconst hc dX1_reachFromZero_52 ?_
      refine V.isub hc dX1_reachFromZero_53 ?_
      refine V.aload_n (t := 1) hc dX1_reachFromZero_54 rfl rfl ?_
      refine V.gR hc gR_X1_18 (i' := o) rfl dX1_reachFromZero_55 ?_
      refine V.iload_n hc dX1_reachFromZero_58 rfl rfl ?_
      obtain ⟨g27, hw⟩ := hw
      refine V.ald hc ak_15 g27 dX1_reachFromZero_59 ?_
      obtain ⟨g28, hw⟩ := hw
      obtain ⟨g29, hw⟩ := hw
      refine V.idiv hc g28 g29 dX1_reachFromZero_60 ?_
      refine V.iadd hc dX1_reachFromZero_61 ?_
      exact V.iret hc hr dX1_reachFromZero_62 hw
theorem qX6_isActive (G : GG) (l : Launch) (o : Int) (a1 : Int) (h : HP) (P : Int → HP → Prop) (hw : wX6_isActive o a1 h P) : CnI l G yX6_isActive cX6_isActive 2 (some .boolean) 8 [(16, o), (0, a1)] h P := by
  refine CnI.of (lo := [(16, o), (0, a1)]) (by decide) rfl rfl rfl ?_
  intro p e s m args below meth c hc hr
  have hc : VC G p (rmD 8 0) s m args meth c RX6 cX6_isActive 2 8 := hc
  refine V.aload_n (t := 6) hc dX6_isActive_0 rfl rfl ?_
  refine V.gR hc gR_X6_46 (i' := o) rfl dX6_isActive_1 ?_
  refine V.iload_n hc dX6_isActive_4 rfl rfl ?_
  obtain ⟨g1, hw⟩ := hw
  refine V.ald hc ak_29 g1 dX6_isActive_5 ?_
  obtain ⟨q4, hw⟩ := hw
  have kJ6 : ∀ t3 : Int, ((h 29 o a1 ≤ 0 → t3 = 0) ∧ (¬ h 29 o a1 ≤ 0 → t3 = 1)) → V G p l e (rmD 8 0) s m args below meth c (MQ below (QI G P) args s 0 0 (va_Aof G)) 2 14 [(1, 0), (1, 0)] [(0, t3)] h 0 := by
    intro t3 he
    replace hw := hw t3 he
    clear he
    obtain ⟨g5, hw⟩ := hw
    exact V.zret hc hr dX6_isActive_14 g5 hw
  have g2 := q4
  refine V.if_le hc (tgt := 13) dX6_isActive_6 (by decide) g2 (fun c7 => ?_) (fun c7 => ?_)
  · refine V.iconst hc dX6_isActive_13 ?_
    refine V.drop (lo' := [(1, 0), (1, 0)]) ⟨Or.inl rfl, Or.inl rfl, trivial⟩ ?_
    exact kJ6 _ ⟨fun _ => rfl, (fun q => absurd c7 q)⟩
  · refine V.iconst hc dX6_isActive_9 ?_
    refine V.goto hc (tgt := 14) dX6_isActive_10 (by decide) ?_
    refine V.drop (lo' := [(1, 0), (1, 0)]) ⟨Or.inl rfl, Or.inl rfl, trivial⟩ ?_
    exact kJ6 _ ⟨(fun q => absurd q c7), fun _ => rfl⟩
theorem qX2_behind (G : GG) (l : Launch) (o : Int) (a1 : Int) (a2 : Int) (a3 : Int) (h : HP) (P : Int → HP → Prop) (hw : wX2_behind o a1 a2 a3 h P) : CnI l G yX2_behind cX2_behind 4 (some .int) 13 [(12, o), (0, a1), (0, a2), (0, a3)] h P := by
  refine CnI.of (lo := [(12, o), (0, a1), (0, a2), (0, a3)]) (by decide) rfl rfl rfl ?_
  intro p e s m args below meth c hc hr
  have hc : VC G p (rmD 13 0) s m args meth c RX2 cX2_behind 4 13 := hc
  refine V.aload_n (t := 2) hc dX2_behind_0 rfl rfl ?_
  refine V.gR hc gR_X2_23 (i' := 12) rfl dX2_behind_1 ?_
  refine V.aload_n (t := 2) hc dX2_behind_4 rfl rfl ?_
  refine V.gR hc gR_X2_19 (i' := 10) rfl dX2_behind_5 ?_
  refine V.callVV hc (qX6_copyFrom G l _ _ _ _ hw) mo_X6_copyFrom ml_X2_26 (by rfl) rfl rfl (as := [(16, 10)]) rfl rfl rfl rfl rfl ⟨Nat.zero_le _, Nat.zero_le _⟩ dX2_behind_8 (fun h1 hw => ?_)
  refine V.aload_n (t := 2) hc dX2_behind_11 rfl rfl ?_
  refine V.gR hc gR_X2_23 (i' := 12) rfl dX2_behind_12 ?_
  refine V.iload_n hc dX2_behind_15 rfl rfl ?_
  refine V.callVV hc (qX6_pass G l _ _ _ _ hw) mo_X6_pass ml_X2_32 (by rfl) rfl rfl (as := [(0, a2)]) rfl rfl rfl rfl rfl ⟨Nat.zero_le _, Nat.zero_le _⟩ dX2_behind_16 (fun h2 hw => ?_)
  refine V.iload_n hc dX2_behind_19 rfl rfl ?_
  obtain ⟨g3, hw⟩ := hw
  by_cases c4 : a3 = 0
  · replace hw := hw.1 c4
    refine V.tswIn hc 0 c4 (by decide) (by decide) (by decide) (tgt := 56) dX2_behind_20 rfl (by decide) ?_
    refine V.aload_n (t := 2) hc dX2_behind_56 rfl rfl ?_
    refine V.gR hc gR_X2_23 (i' := 12) rfl dX2_behind_57 ?_
    refine V.gR hc gR_X2_36 (i' := 12) rfl dX2_behind_60 ?_
    refine V.iload_n hc dX2_behind_63 rfl rfl ?_
    obtain ⟨g5, hw⟩ := hw
    refine V.ald hc ak_24 g5 dX2_behind_64 ?_
    exact V.iret hc hr dX2_behind_65 hw
  replace hw := hw.2 c4
  by_cases c6 : a3 = 1
  · replace hw := hw.1 c6
    refine V.tswIn hc 1 c6 (by decide) (by decide) (by decide) (tgt := 66) dX2_behind_20 rfl (by decide) ?_
    refine V.aload_n (t := 2) hc dX2_behind_66 rfl rfl ?_
    refine V.gR hc gR_X2_23 (i' := 12) rfl dX2_behind_67 ?_
    refine V.iload_n hc dX2_behind_70 rfl rfl ?_
    refine V.callVI hc (qX6_packets G l _ _ _ _ hw) mo_X6_packets ml_X2_39 (by rfl) rfl rfl (as := [(0, a1)]) rfl rfl rfl rfl rfl ⟨Nat.zero_le _, Nat.zero_le _⟩ dX2_behind_71 (fun x8 h7 hw => ?_)
    exact V.iret hc hr dX2_behind_74 hw
  replace hw := hw.2 c6
  by_cases c9 : a3 = 2
  · replace hw := hw.1 c9
    refine V.tswIn hc 2 c9 (by decide) (by decide) (by decide) (tgt := 75) dX2_behind_20 rfl (by decide) ?_
    refine V.aload_n (t := 2) hc dX2_behind_75 rfl rfl ?_
    refine V.gR hc gR_X2_23 (i' := 12) rfl dX2_behind_76 ?_
    refine V.gR hc gR_X2_43 (i' := 12) rfl dX2_behind_79 ?_
    refine V.iload_n hc dX2_behind_82 rfl rfl ?_
    obtain ⟨g10, hw⟩ := hw
    refine V.ald hc ak_26 g10 dX2_behind_83 ?_
    exact V.iret hc hr dX2_behind_84 hw
  replace hw := hw.2 c9
  by_cases c11 : a3 = 3
  · replace hw := hw.1 c11
    refine V.tswIn hc 3 c11 (by decide) (by decide) (by decide) (tgt := 85) dX2_behind_20 rfl (by decide) ?_
    refine V.aload_n (t := 2) hc dX2_behind_85 rfl rfl ?_
    refine V.gR hc gR_X2_23 (i' := 12) rfl dX2_behind_86 ?_
    refine V.gR hc gR_X2_46 (i' := 12) rfl dX2_behind_89 ?_
    refine V.iload_n hc dX2_behind_92 rfl rfl ?_
    obtain ⟨g12, hw⟩ := hw
    refine V.ald hc ak_25 g12 dX2_behind_93 ?_
    exact V.iret hc hr dX2_behind_94 hw
  replace hw := hw.2 c11
  by_cases c13 : a3 = 4
  · replace hw := hw.1 c13
    refine V.tswIn hc 4 c13 (by decide) (by decide) (by decide) (tgt := 95) dX2_behind_20 rfl (by decide) ?_
    refine V.aload_n (t := 2) hc dX2_behind_95 rfl rfl ?_
    refine V.gR hc gR_X2_23 (i' := 12) rfl dX2_behind_96 ?_
    refine V.gR hc gR_X2_49 (i' := 12) rfl dX2_behind_99 ?_
    refine V.iload_n hc dX2_behind_102 rfl rfl ?_
    obtain ⟨g14, hw⟩ := hw
    refine V.ald hc ak_28 g14 dX2_behind_103 ?_
    exact V.iret hc hr dX2_behind_104 hw
  replace hw := hw.2 c13
  refine V.tswOut hc (tgt := 105) g3 dX2_behind_20 (by omega) (by decide) ?_
  refine V.aload_n (t := 2) hc dX2_behind_105 rfl rfl ?_
  refine V.gR hc gR_X2_23 (i' := 12) rfl dX2_behind_106 ?_
  refine V.iload_n hc dX2_behind_109 rfl rfl ?_
  refine V.callVI hc (qX6_isActive G l _ _ _ _ hw) mo_X6_isActive ml_X2_52 (by rfl) rfl rfl (as := [(0, a1)]) rfl rfl rfl rfl rfl ⟨Nat.zero_le _, Nat.zero_le _⟩ dX2_behind_110 (fun x16 h15 hw => ?_)
  obtain ⟨q19, hw⟩ := hw
  have kJ20 : ∀ t18 : Int, ((x16 = 0 → t18 = 0) ∧ (¬ x16 = 0 → t18 = 1)) → V G p l e (rmD 13 0) s m args below meth c (MQ below (QI G P) args s 0 0 (va_Aof G)) 4 121 [(1, 0), (1, 0), (1, 0), (1, 0)] [(0, t18)] h15 0 := by
    intro t18 he
    replace hw := hw t18 he
    clear he
    exact V.iret hc hr dX2_behind_121 hw
  have g17 := q19
  refine V.if_eq hc (tgt := 120) dX2_behind_113 (by decide) g17 (fun c21 => ?_) (fun c21 => ?_)
  · refine V.iconst hc dX2_behind_120 ?_
    refine V.drop (lo' := [(1, 0), (1, 0), (1, 0), (1, 0)]) ⟨Or.inl rfl, Or.inl rfl, Or.inl rfl, Or.inl rfl, trivial⟩ ?_
    exact kJ20 _ ⟨fun _ => rfl, (fun q => absurd c21 q)⟩
  · refine V.iconst hc dX2_behind_116 ?_
    refine V.goto hc (tgt := 121) dX2_behind_117 (by decide) ?_
    refine V.drop (lo' := [(1, 0), (1, 0), (1, 0), (1, 0)]) ⟨Or.inl rfl, Or.inl rfl, Or.inl rfl, Or.inl rfl, trivial⟩ ?_
    exact kJ20 _ ⟨(fun q => absurd q c21), fun _ => rfl⟩
theorem tX2_chosenAt_26 {G : GG} {p : Program} {l : Launch} {e : Jvm.Env} {s : State} {m : MethodId} {args : Array Value} {below : List Frame} {meth : Method} {c : Code} {P : Int → HP → Prop} (hc : VC G p (rmD 12 0) s m args meth c RX2 cX2_chosenAt 6 12) (hr : meth.sig.returnType = some .int) {o : Int} {a1 : Int} {a2 : Int} {l3 : Int} {K151 : HP → Prop} {K89 : Int → HP → Prop} (hK151 : ∀  (h : HP), K151  h → V G p l e (rmD 12 0) s m args below meth c (MQ below (QI G P) args s 0 0 (va_Aof G)) 6 151 [(1, 0), (1, 0), (1, 0), (1, 0), (1, 0), (1, 0)] [] h 0) (hK89 : ∀ (x5 : Int) (h : HP), K89 x5 h → V G p l e (rmD 12 0) s m args below meth c (MQ below (QI G P) args s 0 0 (va_Aof G)) 6 89 [(12, o), (1, 0), (0, a2), (1, 0), (1, 0), (0, x5)] [] h 0) : ∀ (f : Nat) (l4 : Int) (h : HP), wX2_chosenAt_26 o a1 a2 l3 K151 K89 f l4 h → V G p l e (rmD 12 0) s m args below meth c (MQ below (QI G P) args s 0 0 (va_Aof G)) 6 26 [(12, o), (0, a1), (0, a2), (0, l3), (0, l4), (1, 0)] [] h 0 := by
  intro f
  induction f with
  | zero =>
    intro l4 h hw
    exact hw.elim
  | succ f ih =>
    intro l4 h hw
    refine V.iload hc dX2_chosenAt_26 rfl ?_
    refine V.sipush hc dX2_chosenAt_28 (by decide) ?_
    obtain ⟨g2, hw⟩ := hw
    refine V.icmp_ge hc (tgt := 151) dX2_chosenAt_31 (by decide) g2 (by omega) (fun c3 => ?_) (fun c3 => ?_)
    · replace hw := hw.1 c3
      refine V.drop (lo' := [(1, 0), (1, 0), (1, 0), (1, 0), (1, 0), (1, 0)]) ⟨Or.inl rfl, Or.inl rfl, Or.inl rfl, Or.inl rfl, Or.inl rfl, Or.inr rfl, trivial⟩ ?_
      exact hK151 _ hw
    · replace hw := hw.2 c3
      refine V.aload_n (t := 2) hc dX2_chosenAt_34 rfl rfl ?_
      refine V.gR hc gR_X2_23 (i' := 12) rfl dX2_chosenAt_35 ?_
      refine V.gI hc gI_X2_56 rfl dX2_chosenAt_38 ?_
      refine V.iload_n hc dX2_chosenAt_41 rfl rfl ?_
      obtain ⟨g4, hw⟩ := hw
      obtain ⟨g5, hw⟩ := hw
      refine V.icmp_ge hc (tgt := 151) dX2_chosenAt_42 (by decide) g4 g5 (fun c6 => ?_) (fun c6 => ?_)
      · replace hw := hw.1 c6
        refine V.drop (lo' := [(1, 0), (1, 0), (1, 0), (1, 0), (1, 0), (1, 0)]) ⟨Or.inl rfl, Or.inl rfl, Or.inl rfl, Or.inl rfl, Or.inl rfl, Or.inr rfl, trivial⟩ ?_
        exact hK151 _ hw
      · replace hw := hw.2 c6
        refine V.aload_n (t := 2) hc dX2_chosenAt_45 rfl rfl ?_
        refine V.gR hc gR_X2_23 (i' := 12) rfl dX2_chosenAt_46 ?_
        refine V.gI hc gI_X2_60 rfl dX2_chosenAt_49 ?_
        refine V.istore hc dX2_chosenAt_52 rfl (lo' := [(12, o), (0, a1), (0, a2), (0, l3), (0, l4), (0, h 6 12 4)]) rfl ?_
        refine V.aload_n (t := 2) hc dX2_chosenAt_54 rfl rfl ?_
        refine V.gR hc gR_X2_23 (i' := 12) rfl dX2_chosenAt_55 ?_
        refine V.iload_n hc dX2_chosenAt_58 rfl rfl ?_
        refine V.aload_n (t := 2) hc dX2_chosenAt_59 rfl rfl ?_
        refine V.gR hc gR_X2_23 (i' := 12) rfl dX2_chosenAt_60 ?_
        refine V.gI hc gI_X2_56 rfl dX2_chosenAt_63 ?_
        refine V.isub hc dX2_chosenAt_66 ?_
        refine V.callVV hc (qX6_advance G l _ _ _ _ hw) mo_X6_advance ml_X2_63 (by rfl) rfl rfl (as := [(0, l3 - (h 6 12 1))]) rfl rfl rfl rfl rfl ⟨Nat.zero_le _, Nat.zero_le _⟩ dX2_chosenAt_67 (fun h7 hw => ?_)
        refine V.aload_n (t := 2) hc dX2_chosenAt_70 rfl rfl ?_
        refine V.gR hc gR_X2_23 (i' := 12) rfl dX2_chosenAt_71 ?_
        refine V.gI hc gI_X2_66 rfl dX2_chosenAt_74 ?_
        refine V.aload_n (t := 2) hc dX2_chosenAt_77 rfl rfl ?_
        refine V.gR hc gR_X2_19 (i' := 10) rfl dX2_chosenAt_78 ?_
        refine V.gI hc gI_X2_66 rfl dX2_chosenAt_81 ?_
        refine V.isub hc dX2_chosenAt_84 ?_
        refine V.iload_n hc dX2_chosenAt_85 rfl rfl ?_
        obtain ⟨g8, hw⟩ := hw
        obtain ⟨g9, hw⟩ := hw
        refine V.icmp_ne hc (tgt := 145) dX2_chosenAt_86 (by decide) g8 g9 (fun c10 => ?_) (fun c10 => ?_)
        · replace hw := hw.1 c10
          refine V.iinc hc dX2_chosenAt_145 rfl rfl (lo' := [(12, o), (0, a1), (0, a2), (0, l3), (0, l4 + 1), (0, h 6 12 4)]) rfl ?_
          refine V.goto hc (tgt := 26) dX2_chosenAt_148 (by decide) ?_
          refine V.drop (lo' := [(12, o), (0, a1), (0, a2), (0, l3), (0, l4 + 1), (1, 0)]) ⟨Or.inr rfl, Or.inr rfl, Or.inr rfl, Or.inr rfl, Or.inr rfl, Or.inl rfl, trivial⟩ ?_
          exact ih _ _ hw
        · replace hw := hw.2 c10
          refine V.drop (lo' := [(12, o), (1, 0), (0, a2), (1, 0), (1, 0), (0, h 6 12 4)]) ⟨Or.inr rfl, Or.inl rfl, Or.inr rfl, Or.inl rfl, Or.inl rfl, Or.inr rfl, trivial⟩ ?_
          exact hK89 _ _ hw
theorem qX2_chosenAt (G : GG) (l : Launch) (o : Int) (a1 : Int) (a2 : Int) (h : HP) (P : Int → HP → Prop) (hw : wX2_chosenAt o a1 a2 h P) : CnI l G yX2_chosenAt cX2_chosenAt 6 (some .int) 12 [(12, o), (0, a1), (0, a2)] h P := by
  refine CnI.of (lo := [(12, o), (0, a1), (0, a2), (1, 0), (1, 0), (1, 0)]) (by decide) rfl rfl rfl ?_
  intro p e s m args below meth c hc hr
  have hc : VC G p (rmD 12 0) s m args meth c RX2 cX2_chosenAt 6 12 := hc
  refine V.aload_n (t := 2) hc dX2_chosenAt_0 rfl rfl ?_
  refine V.gR hc gR_X2_23 (i' := 12) rfl dX2_chosenAt_1 ?_
  refine V.aload_n (t := 2) hc dX2_chosenAt_4 rfl rfl ?_
  refine V.gR hc gR_X2_19 (i' := 10) rfl dX2_chosenAt_5 ?_
  refine V.callVV hc (qX6_copyFrom G l _ _ _ _ hw) mo_X6_copyFrom ml_X2_26 (by rfl) rfl rfl (as := [(16, 10)]) rfl rfl rfl rfl rfl ⟨Nat.zero_le _, Nat.zero_le _⟩ dX2_chosenAt_8 (fun h1 hw => ?_)
  refine V.aload_n (t := 2) hc dX2_chosenAt_11 rfl rfl ?_
  refine V.gR hc gR_X2_19 (i' := 10) rfl dX2_chosenAt_12 ?_
  refine V.gI hc gI_X2_56 rfl dX2_chosenAt_15 ?_
  refine V.sipush hc dX2_chosenAt_18 (by decide) ?_
  refine V.iadd hc dX2_chosenAt_21 ?_
  refine V.istore_n hc dX2_chosenAt_22 rfl rfl (lo' := [(12, o), (0, a1), (0, a2), (0, (h1 6 10 1) + 400), (1, 0), (1, 0)]) rfl ?_
  refine V.iconst hc dX2_chosenAt_23 ?_
  refine V.istore hc dX2_chosenAt_24 rfl (lo' := [(12, o), (0, a1), (0, a2), (0, (h1 6 10 1) + 400), (0, 0), (1, 0)]) rfl ?_
  obtain ⟨f11, hw⟩ := hw
  refine tX2_chosenAt_26 hc hr ?_ ?_ f11 _ _ hw
  · intro h12 hw
    refine V.iconst hc dX2_chosenAt_151 ?_
    exact V.iret hc hr dX2_chosenAt_152 hw
  · intro l13 h14 hw
    refine V.iload_n hc dX2_chosenAt_89 rfl rfl ?_
    obtain ⟨g15, hw⟩ := hw
    by_cases c16 : a2 = 0
    · replace hw := hw.1 c16
      refine V.lsw hc (off := 26) (tgt := 116) g15 dX2_chosenAt_90 (by decide) (by rw [c16] <;> first | rfl | decide) (by decide) ?_
      refine V.aload_n (t := 2) hc dX2_chosenAt_116 rfl rfl ?_
      refine V.gR hc gR_X2_23 (i' := 12) rfl dX2_chosenAt_117 ?_
      refine V.gI hc gI_X2_69 rfl dX2_chosenAt_120 ?_
      exact V.iret hc hr dX2_chosenAt_123 hw
    replace hw := hw.2 c16
    by_cases c17 : a2 = 1
    · replace hw := hw.1 c17
      refine V.lsw hc (off := 34) (tgt := 124) g15 dX2_chosenAt_90 (by decide) (by rw [c17] <;> first | rfl | decide) (by decide) ?_
      refine V.aload_n (t := 2) hc dX2_chosenAt_124 rfl rfl ?_
      refine V.gR hc gR_X2_23 (i' := 12) rfl dX2_chosenAt_125 ?_
      refine V.gI hc gI_X2_56 rfl dX2_chosenAt_128 ?_
      refine V.iconst hc dX2_chosenAt_131 ?_
      refine V.isub hc dX2_chosenAt_132 ?_
      exact V.iret hc hr dX2_chosenAt_133 hw
    replace hw := hw.2 c17
    refine V.lsw hc (off := 44) (tgt := 134) g15 dX2_chosenAt_90 (by decide) (by simp only [Op.lookupswitch.offset_cons]; rw [if_neg (fun e => c16 e.symm), if_neg (fun e => c17 e.symm)] <;> rfl) (by decide) ?_
    refine V.aload_n (t := 2) hc dX2_chosenAt_134 rfl rfl ?_
    refine V.gR hc gR_X2_23 (i' := 12) rfl dX2_chosenAt_135 ?_
    refine V.gI hc gI_X2_60 rfl dX2_chosenAt_138 ?_
    refine V.iload hc dX2_chosenAt_141 rfl ?_
    refine V.isub hc dX2_chosenAt_143 ?_
    exact V.iret hc hr dX2_chosenAt_144 hw
theorem tX2_waitOnLater_116 {G : GG} {p : Program} {l : Launch} {e : Jvm.Env} {s : State} {m : MethodId} {args : Array Value} {below : List Frame} {meth : Method} {c : Code} {P : Int → HP → Prop} (hc : VC G p (rmD 12 0) s m args meth c RX2 cX2_waitOnLater 7 12) (hr : meth.sig.returnType = some .int) {o : Int} {a1 : Int} {a2 : Int} {l3 : Int} {l4 : Int} {l5 : Int} {h : HP} {K24 : Int → Int → HP → Prop} (hK24 : ∀ (x3 : Int) (x5 : Int) (h : HP), K24 x3 x5 h → V G p l e (rmD 12 0) s m args below meth c (MQ below (QI G P) args s 0 0 (va_Aof G)) 7 24 [(12, o), (0, a1), (0, a2), (0, x3), (0, l4), (0, x5), (1, 0)] [] h 0) (hw : wX2_waitOnLater_116 o a1 a2 l3 l4 l5 K24 h) : V G p l e (rmD 12 0) s m args below meth c (MQ below (QI G P) args s 0 0 (va_Aof G)) 7 116 [(12, o), (0, a1), (0, a2), (0, l3), (0, l4), (0, l5), (1, 0)] [] h 0 := by
  refine V.iinc hc dX2_waitOnLater_116 rfl rfl (lo' := [(12, o), (0, a1), (0, a2), (0, l3), (0, l4), (0, l5 + 1), (1, 0)]) rfl ?_
  refine V.goto hc (tgt := 24) dX2_waitOnLater_119 (by decide) ?_
  exact hK24 _ _ _ hw
theorem tX2_waitOnLater_24 {G : GG} {p : Program} {l : Launch} {e : Jvm.Env} {s : State} {m : MethodId} {args : Array Value} {below : List Frame} {meth : Method} {c : Code} {P : Int → HP → Prop} (hc : VC G p (rmD 12 0) s m args meth c RX2 cX2_waitOnLater 7 12) (hr : meth.sig.returnType = some .int) {o : Int} {a1 : Int} {a2 : Int} {l4 : Int} {K122 : HP → Prop} {K98 : HP → Prop} (hK122 : ∀  (h : HP), K122  h → V G p l e (rmD 12 0) s m args below meth c (MQ below (QI G P) args s 0 0 (va_Aof G)) 7 122 [(1, 0), (1, 0), (1, 0), (1, 0), (1, 0), (1, 0), (1, 0)] [] h 0) (hK98 : ∀  (h : HP), K98  h → V G p l e (rmD 12 0) s m args below meth c (MQ below (QI G P) args s 0 0 (va_Aof G)) 7 98 [(12, o), (1, 0), (1, 0), (1, 0), (1, 0), (1, 0), (1, 0)] [] h 0) : ∀ (f : Nat) (l3 : Int) (l5 : Int) (h : HP), wX2_waitOnLater_24 o a1 a2 l4 K122 K98 f l3 l5 h → V G p l e (rmD 12 0) s m args below meth c (MQ below (QI G P) args s 0 0 (va_Aof G)) 7 24 [(12, o), (0, a1), (0, a2), (0, l3), (0, l4), (0, l5), (1, 0)] [] h 0 := by
  intro f
  induction f with
  | zero =>
    intro l3 l5 h hw
    exact hw.elim
  | succ f ih =>
    intro l3 l5 h hw
    refine V.iload hc dX2_waitOnLater_24 rfl ?_
    refine V.iload_n hc dX2_waitOnLater_26 rfl rfl ?_
    obtain ⟨g2, hw⟩ := hw
    obtain ⟨g3, hw⟩ := hw
    refine V.icmp_ge hc (tgt := 122) dX2_waitOnLater_27 (by decide) g2 g3 (fun c4 => ?_) (fun c4 => ?_)
    · replace hw := hw.1 c4
      refine V.drop (lo' := [(1, 0), (1, 0), (1, 0), (1, 0), (1, 0), (1, 0), (1, 0)]) ⟨Or.inl rfl, Or.inl rfl, Or.inl rfl, Or.inl rfl, Or.inl rfl, Or.inl rfl, Or.inr rfl, trivial⟩ ?_
      exact hK122 _ hw
    · replace hw := hw.2 c4
      refine V.aload_n (t := 2) hc dX2_waitOnLater_30 rfl rfl ?_
      refine V.gR hc gR_X2_23 (i' := 12) rfl dX2_waitOnLater_31 ?_
      refine V.gI hc gI_X2_56 rfl dX2_waitOnLater_34 ?_
      refine V.iload hc dX2_waitOnLater_37 rfl ?_
      obtain ⟨g5, hw⟩ := hw
      obtain ⟨g6, hw⟩ := hw
      refine V.icmp_ge hc (tgt := 122) dX2_waitOnLater_39 (by decide) g5 g6 (fun c7 => ?_) (fun c7 => ?_)
      · replace hw := hw.1 c7
        refine V.drop (lo' := [(1, 0), (1, 0), (1, 0), (1, 0), (1, 0), (1, 0), (1, 0)]) ⟨Or.inl rfl, Or.inl rfl, Or.inl rfl, Or.inl rfl, Or.inl rfl, Or.inl rfl, Or.inr rfl, trivial⟩ ?_
        exact hK122 _ hw
      · replace hw := hw.2 c7
        refine V.aload_n (t := 2) hc dX2_waitOnLater_42 rfl rfl ?_
        refine V.gR hc gR_X2_23 (i' := 12) rfl dX2_waitOnLater_43 ?_
        refine V.gI hc gI_X2_66 rfl dX2_waitOnLater_46 ?_
        refine V.istore hc dX2_waitOnLater_49 rfl (lo' := [(12, o), (0, a1), (0, a2), (0, l3), (0, l4), (0, l5), (0, h 6 12 3)]) rfl ?_
        refine V.aload_n (t := 2) hc dX2_waitOnLater_51 rfl rfl ?_
        refine V.gR hc gR_X2_23 (i' := 12) rfl dX2_waitOnLater_52 ?_
        refine V.iload hc dX2_waitOnLater_55 rfl ?_
        refine V.aload_n (t := 2) hc dX2_waitOnLater_57 rfl rfl ?_
        refine V.gR hc gR_X2_23 (i' := 12) rfl dX2_waitOnLater_58 ?_
        refine V.gI hc gI_X2_56 rfl dX2_waitOnLater_61 ?_
        refine V.isub hc dX2_waitOnLater_64 ?_
        refine V.callVV hc (qX6_advance G l _ _ _ _ hw) mo_X6_advance ml_X2_63 (by rfl) rfl rfl (as := [(0, l4 - (h 6 12 1))]) rfl rfl rfl rfl rfl ⟨Nat.zero_le _, Nat.zero_le _⟩ dX2_waitOnLater_65 (fun h8 hw => ?_)
        refine V.aload_n (t := 2) hc dX2_waitOnLater_68 rfl rfl ?_
        refine V.gR hc gR_X2_23 (i' := 12) rfl dX2_waitOnLater_69 ?_
        refine V.gI hc gI_X2_66 rfl dX2_waitOnLater_72 ?_
        refine V.iload hc dX2_waitOnLater_75 rfl ?_
        obtain ⟨g9, hw⟩ := hw
        obtain ⟨g10, hw⟩ := hw
        refine V.icmp_le hc (tgt := 116) dX2_waitOnLater_77 (by decide) g9 g10 (fun c11 => ?_) (fun c11 => ?_)
        · replace hw := hw.1 c11
          refine V.drop (lo' := [(12, o), (0, a1), (0, a2), (0, l3), (0, l4), (0, l5), (1, 0)]) ⟨Or.inr rfl, Or.inr rfl, Or.inr rfl, Or.inr rfl, Or.inr rfl, Or.inr rfl, Or.inl rfl, trivial⟩ ?_
          exact tX2_waitOnLater_116 hc hr (fun y3 y5 hy hw => by exact ih _ _ _ hw) hw
        · replace hw := hw.2 c11
          refine V.aload_n (t := 2) hc dX2_waitOnLater_80 rfl rfl ?_
          refine V.gR hc gR_X2_23 (i' := 12) rfl dX2_waitOnLater_81 ?_
          refine V.gI hc gI_X2_69 rfl dX2_waitOnLater_84 ?_
          refine V.iload_n hc dX2_waitOnLater_87 rfl rfl ?_
          obtain ⟨g12, hw⟩ := hw
          obtain ⟨g13, hw⟩ := hw
          refine V.icmp_ne hc (tgt := 116) dX2_waitOnLater_88 (by decide) g12 g13 (fun c14 => ?_) (fun c14 => ?_)
          · replace hw := hw.1 c14
            refine V.drop (lo' := [(12, o), (0, a1), (0, a2), (0, l3), (0, l4), (0, l5), (1, 0)]) ⟨Or.inr rfl, Or.inr rfl, Or.inr rfl, Or.inr rfl, Or.inr rfl, Or.inr rfl, Or.inl rfl, trivial⟩ ?_
            exact tX2_waitOnLater_116 hc hr (fun y3 y5 hy hw => by exact ih _ _ _ hw) hw
          · replace hw := hw.2 c14
            refine V.iinc hc dX2_waitOnLater_91 rfl rfl (lo' := [(12, o), (0, a1), (0, a2), (0, l3 + (-1)), (0, l4), (0, l5), (0, h 6 12 3)]) rfl ?_
            refine V.iload_n hc dX2_waitOnLater_94 rfl rfl ?_
            obtain ⟨g15, hw⟩ := hw
            refine V.if_ne hc (tgt := 116) dX2_waitOnLater_95 (by decide) g15 (fun c16 => ?_) (fun c16 => ?_)
            · replace hw := hw.1 c16
              refine V.drop (lo' := [(12, o), (0, a1), (0, a2), (0, l3 + (-1)), (0, l4), (0, l5), (1, 0)]) ⟨Or.inr rfl, Or.inr rfl, Or.inr rfl, Or.inr rfl, Or.inr rfl, Or.inr rfl, Or.inl rfl, trivial⟩ ?_
              exact tX2_waitOnLater_116 hc hr (fun y3 y5 hy hw => by exact ih _ _ _ hw) hw
            · replace hw := hw.2 c16
              refine V.drop (lo' := [(12, o), (1, 0), (1, 0), (1, 0), (1, 0), (1, 0), (1, 0)]) ⟨Or.inr rfl, Or.inl rfl, Or.inl rfl, Or.inl rfl, Or.inl rfl, Or.inl rfl, Or.inl rfl, trivial⟩ ?_
              exact hK98 _ hw
theorem qX2_waitOnLater (G : GG) (l : Launch) (o : Int) (a1 : Int) (a2 : Int) (h : HP) (P : Int → HP → Prop) (hw : wX2_waitOnLater o a1 a2 h P) : CnI l G yX2_waitOnLater cX2_waitOnLater 7 (some .int) 12 [(12, o), (0, a1), (0, a2)] h P := by
  refine CnI.of (lo := [(12, o), (0, a1), (0, a2), (1, 0), (1, 0), (1, 0), (1, 0)]) (by decide) rfl rfl rfl ?_
  intro p e s m args below meth c hc hr
  have hc : VC G p (rmD 12 0) s m args meth c RX2 cX2_waitOnLater 7 12 := hc
  refine V.aload_n (t := 2) hc dX2_waitOnLater_0 rfl rfl ?_
  refine V.gR hc gR_X2_19 (i' := 10) rfl dX2_waitOnLater_1 ?_
  refine V.gR hc gR_X2_76 (i' := 10) rfl dX2_waitOnLater_4 ?_
  refine V.iload_n hc dX2_waitOnLater_7 rfl rfl ?_
  obtain ⟨g1, hw⟩ := hw
  refine V.ald hc ak_29 g1 dX2_waitOnLater_8 ?_
  refine V.istore_n hc dX2_waitOnLater_9 rfl rfl (lo' := [(12, o), (0, a1), (0, a2), (0, h 29 10 a1), (1, 0), (1, 0), (1, 0)]) rfl ?_
  refine V.aload_n (t := 2) hc dX2_waitOnLater_10 rfl rfl ?_
  refine V.gR hc gR_X2_19 (i' := 10) rfl dX2_waitOnLater_11 ?_
  refine V.gI hc gI_X2_56 rfl dX2_waitOnLater_14 ?_
  refine V.iload_n hc dX2_waitOnLater_17 rfl rfl ?_
  refine V.iadd hc dX2_waitOnLater_18 ?_
  refine V.istore hc dX2_waitOnLater_19 rfl (lo' := [(12, o), (0, a1), (0, a2), (0, h 29 10 a1), (0, (h 6 10 1) + a2), (1, 0), (1, 0)]) rfl ?_
  refine V.iconst hc dX2_waitOnLater_21 ?_
  refine V.istore hc dX2_waitOnLater_22 rfl (lo' := [(12, o), (0, a1), (0, a2), (0, h 29 10 a1), (0, (h 6 10 1) + a2), (0, 0), (1, 0)]) rfl ?_
  obtain ⟨f17, hw⟩ := hw
  refine tX2_waitOnLater_24 hc hr ?_ ?_ f17 _ _ _ hw
  · intro h18 hw
    refine V.iconst hc dX2_waitOnLater_122 ?_
    exact V.iret hc hr dX2_waitOnLater_123 hw
  · intro h19 hw
    refine V.aload_n (t := 2) hc dX2_waitOnLater_98 rfl rfl ?_
    refine V.gR hc gR_X2_23 (i' := 12) rfl dX2_waitOnLater_99 ?_
    refine V.gI hc gI_X2_56 rfl dX2_waitOnLater_102 ?_
    refine V.iconst hc dX2_waitOnLater_105 ?_
    refine V.isub hc dX2_waitOnLater_106 ?_
    refine V.aload_n (t := 2) hc dX2_waitOnLater_107 rfl rfl ?_
    refine V.gR hc gR_X2_19 (i' := 10) rfl dX2_waitOnLater_108 ?_
    refine V.gI hc gI_X2_56 rfl dX2_waitOnLater_111 ?_
    refine V.isub hc dX2_waitOnLater_114 ?_
    exact V.iret hc hr dX2_waitOnLater_115 hw
theorem qX2_waitOf (G : GG) (l : Launch) (o : Int) (a1 : Int) (h : HP) (P : Int → HP → Prop) (hw : wX2_waitOf o a1 h P) : CnI l G yX2_waitOf cX2_waitOf 2 (some .int) 13 [(12, o), (0, a1)] h P := by
  refine CnI.of (lo := [(12, o), (0, a1)]) (by decide) rfl rfl rfl ?_
  intro p e s m args below meth c hc hr
  have hc : VC G p (rmD 13 0) s m args meth c RX2 cX2_waitOf 2 13 := hc
  refine V.aload_n (t := 2) hc dX2_waitOf_0 rfl rfl ?_
  refine V.gR hc gR_X2_23 (i' := 12) rfl dX2_waitOf_1 ?_
  refine V.aload_n (t := 2) hc dX2_waitOf_4 rfl rfl ?_
  refine V.gR hc gR_X2_19 (i' := 10) rfl dX2_waitOf_5 ?_
  refine V.callVV hc (qX6_copyFrom G l _ _ _ _ hw) mo_X6_copyFrom ml_X2_26 (by rfl) rfl rfl (as := [(16, 10)]) rfl rfl rfl rfl rfl ⟨Nat.zero_le _, Nat.zero_le _⟩ dX2_waitOf_8 (fun h1 hw => ?_)
  refine V.aload_n (t := 2) hc dX2_waitOf_11 rfl rfl ?_
  refine V.iload_n hc dX2_waitOf_12 rfl rfl ?_
  refine V.sipush hc dX2_waitOf_13 (by decide) ?_
  refine V.callVI hc (qX2_waitOnLater G l _ _ _ _ _ hw) mo_X2_waitOnLater ml_X2_72 (by rfl) rfl rfl (as := [(0, a1), (0, 400)]) rfl rfl rfl rfl rfl ⟨Nat.zero_le _, Nat.zero_le _⟩ dX2_waitOf_16 (fun x3 h2 hw => ?_)
  exact V.iret hc hr dX2_waitOf_19 hw
theorem tX2_longestWait_168 {G : GG} {p : Program} {l : Launch} {e : Jvm.Env} {s : State} {m : MethodId} {args : Array Value} {below : List Frame} {meth : Method} {c : Code} {P : Int → HP → Prop} (hc : VC G p (rmD 12 0) s m args meth c RX2 cX2_longestWait 15 12) (hr : meth.sig.returnType = some .int) {o : Int} {a1 : Int} {a2 : Int} {l3 : Int} {l5 : Int} {l6 : Int} {l7 : Int} {l8 : Int} {l11 : Int} {l12 : Int} {l13 : Int} {K201 : Int → HP → Prop} (hK201 : ∀ (x4 : Int) (h : HP), K201 x4 h → V G p l e (rmD 12 0) s m args below meth c (MQ below (QI G P) args s 0 0 (va_Aof G)) 15 201 [(12, o), (0, a1), (0, a2), (0, l3), (0, x4), (0, l5), (0, l6), (0, l7), (0, l8), (1, 0), (1, 0), (0, l11), (0, l12), (1, 0), (1, 0)] [] h 0) : ∀ (f : Nat) (l4 : Int) (l14 : Int) (h : HP), wX2_longestWait_168 o a1 a2 l3 l5 l6 l7 l8 l11 l12 l13 K201 f l4 l14 h → V G p l e (rmD 12 0) s m args below meth c (MQ below (QI G P) args s 0 0 (va_Aof G)) 15 168 [(12, o), (0, a1), (0, a2), (0, l3), (0, l4), (0, l5), (0, l6), (0, l7), (0, l8), (1, 0), (1, 0), (0, l11), (0, l12), (0, l13), (0, l14)] [] h 0 := by
  intro f
  induction f with
  | zero =>
    intro l4 l14 h hw
    exact hw.elim
  | succ f ih =>
    intro l4 l14 h hw
    refine V.iload hc dX2_longestWait_168 rfl ?_
    refine V.iload hc dX2_longestWait_170 rfl ?_
    obtain ⟨g21, hw⟩ := hw
    obtain ⟨g22, hw⟩ := hw
    refine V.icmp_ge hc (tgt := 201) dX2_longestWait_172 (by decide) g21 g22 (fun c23 => ?_) (fun c23 => ?_)
    · replace hw := hw.1 c23
      refine V.drop (lo' := [(12, o), (0, a1), (0, a2), (0, l3), (0, l4), (0, l5), (0, l6), (0, l7), (0, l8), (1, 0), (1, 0), (0, l11), (0, l12), (1, 0), (1, 0)]) ⟨Or.inr rfl, Or.inr rfl, Or.inr rfl, Or.inr rfl, Or.inr rfl, Or.inr rfl, Or.inr rfl, Or.inr rfl, Or.inr rfl, Or.inr rfl, Or.inr rfl, Or.inr rfl, Or.inr rfl, Or.inl rfl, Or.inl rfl, trivial⟩ ?_
      exact hK201 _ _ hw
    · replace hw := hw.2 c23
      refine V.iload hc dX2_longestWait_175 rfl ?_
      refine V.sipush hc dX2_longestWait_177 (by decide) ?_
      obtain ⟨g24, hw⟩ := hw
      refine V.icmp_ge hc (tgt := 201) dX2_longestWait_180 (by decide) g24 (by omega) (fun c25 => ?_) (fun c25 => ?_)
      · replace hw := hw.1 c25
        refine V.drop (lo' := [(12, o), (0, a1), (0, a2), (0, l3), (0, l4), (0, l5), (0, l6), (0, l7), (0, l8), (1, 0), (1, 0), (0, l11), (0, l12), (1, 0), (1, 0)]) ⟨Or.inr rfl, Or.inr rfl, Or.inr rfl, Or.inr rfl, Or.inr rfl, Or.inr rfl, Or.inr rfl, Or.inr rfl, Or.inr rfl, Or.inr rfl, Or.inr rfl, Or.inr rfl, Or.inr rfl, Or.inl rfl, Or.inl rfl, trivial⟩ ?_
        exact hK201 _ _ hw
      · replace hw := hw.2 c25
        refine V.aload_n (t := 2) hc dX2_longestWait_183 rfl rfl ?_
        refine V.gR hc gR_X2_11 (i' := o) rfl dX2_longestWait_184 ?_
        refine V.iload hc dX2_longestWait_187 rfl ?_
        refine V.iload hc dX2_longestWait_189 rfl ?_
        obtain ⟨g27, hw⟩ := hw
        refine V.ast hc ak_20 g27 dX2_longestWait_191 (fun h26 e => ?_)
        replace hw := hw h26 e
        clear e
        refine V.iinc hc dX2_longestWait_192 rfl rfl (lo' := [(12, o), (0, a1), (0, a2), (0, l3), (0, l4 + 1), (0, l5), (0, l6), (0, l7), (0, l8), (1, 0), (1, 0), (0, l11), (0, l12), (0, l13), (0, l14)]) rfl ?_
        refine V.iinc hc dX2_longestWait_195 rfl rfl (lo' := [(12, o), (0, a1), (0, a2), (0, l3), (0, l4 + 1), (0, l5), (0, l6), (0, l7), (0, l8), (1, 0), (1, 0), (0, l11), (0, l12), (0, l13), (0, l14 + 1)]) rfl ?_
        refine V.goto hc (tgt := 168) dX2_longestWait_198 (by decide) ?_
        exact ih _ _ _ hw
theorem tX2_longestWait_44 {G : GG} {p : Program} {l : Launch} {e : Jvm.Env} {s : State} {m : MethodId} {args : Array Value} {below : List Frame} {meth : Method} {c : Code} {P : Int → HP → Prop} (hc : VC G p (rmD 12 0) s m args meth c RX2 cX2_longestWait 15 12) (hr : meth.sig.returnType = some .int) {o : Int} {a1 : Int} {a2 : Int} {l7 : Int} {K269 : Int → HP → Prop} (hK269 : ∀ (x6 : Int) (h : HP), K269 x6 h → V G p l e (rmD 12 0) s m args below meth c (MQ below (QI G P) args s 0 0 (va_Aof G)) 15 269 [(1, 0), (1, 0), (1, 0), (1, 0), (1, 0), (1, 0), (0, x6), (1, 0), (1, 0), (1, 0), (1, 0), (1, 0), (1, 0), (1, 0), (1, 0)] [] h 0) : ∀ (f : Nat) (l3 : Int) (l4 : Int) (l5 : Int) (l6 : Int) (l8 : Int) (h : HP), wX2_longestWait_44 o a1 a2 l7 K269 f l3 l4 l5 l6 l8 h → V G p l e (rmD 12 0) s m args below meth c (MQ below (QI G P) args s 0 0 (va_Aof G)) 15 44 [(12, o), (0, a1), (0, a2), (0, l3), (0, l4), (0, l5), (0, l6), (0, l7), (0, l8), (1, 0), (1, 0), (1, 0), (1, 0), (1, 0), (1, 0)] [] h 0 := by
  intro f
  induction f with
  | zero =>
    intro l3 l4 l5 l6 l8 h hw
    exact hw.elim
  | succ f ih =>
    intro l3 l4 l5 l6 l8 h hw
    refine V.iload hc dX2_longestWait_44 rfl ?_
    refine V.iload_n hc dX2_longestWait_46 rfl rfl ?_
    obtain ⟨g3, hw⟩ := hw
    obtain ⟨g4, hw⟩ := hw
    refine V.icmp_ge hc (tgt := 269) dX2_longestWait_47 (by decide) g3 g4 (fun c5 => ?_) (fun c5 => ?_)
    · replace hw := hw.1 c5
      refine V.drop (lo' := [(1, 0), (1, 0), (1, 0), (1, 0), (1, 0), (1, 0), (0, l6), (1, 0), (1, 0), (1, 0), (1, 0), (1, 0), (1, 0), (1, 0), (1, 0)]) ⟨Or.inl rfl, Or.inl rfl, Or.inl rfl, Or.inl rfl, Or.inl rfl, Or.inl rfl, Or.inr rfl, Or.inl rfl, Or.inl rfl, Or.inr rfl, Or.inr rfl, Or.inr rfl, Or.inr rfl, Or.inr rfl, Or.inr rfl, trivial⟩ ?_
      exact hK269 _ _ hw
    · replace hw := hw.2 c5
      refine V.aload_n (t := 2) hc dX2_longestWait_50 rfl rfl ?_
      refine V.gR hc gR_X2_23 (i' := 12) rfl dX2_longestWait_51 ?_
      refine V.gI hc gI_X2_56 rfl dX2_longestWait_54 ?_
      refine V.iload hc dX2_longestWait_57 rfl ?_
      obtain ⟨g6, hw⟩ := hw
      obtain ⟨g7, hw⟩ := hw
      refine V.icmp_ge hc (tgt := 269) dX2_longestWait_59 (by decide) g6 g7 (fun c8 => ?_) (fun c8 => ?_)
      · replace hw := hw.1 c8
        refine V.drop (lo' := [(1, 0), (1, 0), (1, 0), (1, 0), (1, 0), (1, 0), (0, l6), (1, 0), (1, 0), (1, 0), (1, 0), (1, 0), (1, 0), (1, 0), (1, 0)]) ⟨Or.inl rfl, Or.inl rfl, Or.inl rfl, Or.inl rfl, Or.inl rfl, Or.inl rfl, Or.inr rfl, Or.inl rfl, Or.inl rfl, Or.inr rfl, Or.inr rfl, Or.inr rfl, Or.inr rfl, Or.inr rfl, Or.inr rfl, trivial⟩ ?_
        exact hK269 _ _ hw
      · replace hw := hw.2 c8
        refine V.aload_n (t := 2) hc dX2_longestWait_62 rfl rfl ?_
        refine V.gR hc gR_X2_23 (i' := 12) rfl dX2_longestWait_63 ?_
        refine V.gI hc gI_X2_66 rfl dX2_longestWait_66 ?_
        refine V.istore hc dX2_longestWait_69 rfl (lo' := [(12, o), (0, a1), (0, a2), (0, l3), (0, l4), (0, l5), (0, l6), (0, l7), (0, l8), (0, h 6 12 3), (1, 0), (1, 0), (1, 0), (1, 0), (1, 0)]) rfl ?_
        refine V.aload_n (t := 2) hc dX2_longestWait_71 rfl rfl ?_
        refine V.gR hc gR_X2_23 (i' := 12) rfl dX2_longestWait_72 ?_
        refine V.gR hc gR_X2_76 (i' := 12) rfl dX2_longestWait_75 ?_
        refine V.iload_n hc dX2_longestWait_78 rfl rfl ?_
        obtain ⟨g9, hw⟩ := hw
        refine V.ald hc ak_29 g9 dX2_longestWait_79 ?_
        refine V.istore hc dX2_longestWait_80 rfl (lo' := [(12, o), (0, a1), (0, a2), (0, l3), (0, l4), (0, l5), (0, l6), (0, l7), (0, l8), (0, h 6 12 3), (0, h 29 12 a1), (1, 0), (1, 0), (1, 0), (1, 0)]) rfl ?_
        refine V.aload_n (t := 2) hc dX2_longestWait_82 rfl rfl ?_
        refine V.gR hc gR_X2_23 (i' := 12) rfl dX2_longestWait_83 ?_
        refine V.iload hc dX2_longestWait_86 rfl ?_
        refine V.aload_n (t := 2) hc dX2_longestWait_88 rfl rfl ?_
        refine V.gR hc gR_X2_23 (i' := 12) rfl dX2_longestWait_89 ?_
        refine V.gI hc gI_X2_56 rfl dX2_longestWait_92 ?_
        refine V.isub hc dX2_longestWait_95 ?_
        refine V.callVV hc (qX6_advance G l _ _ _ _ hw) mo_X6_advance ml_X2_63 (by rfl) rfl rfl (as := [(0, l7 - (h 6 12 1))]) rfl rfl rfl rfl rfl ⟨Nat.zero_le _, Nat.zero_le _⟩ dX2_longestWait_96 (fun h10 hw => ?_)
        refine V.aload_n (t := 2) hc dX2_longestWait_99 rfl rfl ?_
        refine V.gR hc gR_X2_23 (i' := 12) rfl dX2_longestWait_100 ?_
        refine V.gI hc gI_X2_56 rfl dX2_longestWait_103 ?_
        refine V.iconst hc dX2_longestWait_106 ?_
        refine V.isub hc dX2_longestWait_107 ?_
        refine V.istore hc dX2_longestWait_108 rfl (lo' := [(12, o), (0, a1), (0, a2), (0, l3), (0, l4), (0, l5), (0, l6), (0, l7), (0, l8), (0, h 6 12 3), (0, h 29 12 a1), (0, (h10 6 12 1) - 1), (1, 0), (1, 0), (1, 0)]) rfl ?_
        refine V.aload_n (t := 2) hc dX2_longestWait_110 rfl rfl ?_
        refine V.gR hc gR_X2_23 (i' := 12) rfl dX2_longestWait_111 ?_
        refine V.gI hc gI_X2_66 rfl dX2_longestWait_114 ?_
        refine V.iload hc dX2_longestWait_117 rfl ?_
        obtain ⟨q16, hw⟩ := hw
        have kJ80 : ∀ t15 : Int, ((h10 6 12 3 ≤ h 6 12 3 → t15 = 0) ∧ (¬ h10 6 12 3 ≤ h 6 12 3 → ((¬ h10 6 12 5 = a1 → t15 = 0) ∧ (h10 6 12 5 = a1 → t15 = 1)))) → V G p l e (rmD 12 0) s m args below meth c (MQ below (QI G P) args s 0 0 (va_Aof G)) 15 138 [(12, o), (0, a1), (0, a2), (0, l3), (0, l4), (0, l5), (0, l6), (0, l7), (0, l8), (1, 0), (0, h 29 12 a1), (0, (h10 6 12 1) - 1), (1, 0), (1, 0), (1, 0)] [(0, t15)] h10 0 := by
          intro t15 he
          replace hw := hw t15 he
          clear he
          refine V.istore hc dX2_longestWait_138 rfl (lo' := [(12, o), (0, a1), (0, a2), (0, l3), (0, l4), (0, l5), (0, l6), (0, l7), (0, l8), (1, 0), (0, h 29 12 a1), (0, (h10 6 12 1) - 1), (0, t15), (1, 0), (1, 0)]) rfl ?_
          refine V.aload_n (t := 2) hc dX2_longestWait_140 rfl rfl ?_
          refine V.gR hc gR_X2_23 (i' := 12) rfl dX2_longestWait_141 ?_
          refine V.gR hc gR_X2_76 (i' := 12) rfl dX2_longestWait_144 ?_
          refine V.iload_n hc dX2_longestWait_147 rfl rfl ?_
          obtain ⟨g17, hw⟩ := hw
          refine V.ald hc ak_29 g17 dX2_longestWait_148 ?_
          refine V.iload hc dX2_longestWait_149 rfl ?_
          refine V.isub hc dX2_longestWait_151 ?_
          refine V.iload hc dX2_longestWait_152 rfl ?_
          obtain ⟨q20, hw⟩ := hw
          have kJ78 : ∀ t19 : Int, ((t15 = 0 → t19 = 0) ∧ (¬ t15 = 0 → t19 = 1)) → V G p l e (rmD 12 0) s m args below meth c (MQ below (QI G P) args s 0 0 (va_Aof G)) 15 162 [(12, o), (0, a1), (0, a2), (0, l3), (0, l4), (0, l5), (0, l6), (0, l7), (0, l8), (1, 0), (1, 0), (0, (h10 6 12 1) - 1), (0, t15), (1, 0), (1, 0)] [(0, t19), (0, (h10 29 12 a1) - (h 29 12 a1))] h10 0 := by
            intro t19 he
            replace hw := hw t19 he
            clear he
            refine V.iadd hc dX2_longestWait_162 ?_
            refine V.istore hc dX2_longestWait_163 rfl (lo' := [(12, o), (0, a1), (0, a2), (0, l3), (0, l4), (0, l5), (0, l6), (0, l7), (0, l8), (1, 0), (1, 0), (0, (h10 6 12 1) - 1), (0, t15), (0, ((h10 29 12 a1) - (h 29 12 a1)) + t19), (1, 0)]) rfl ?_
            refine V.iconst hc dX2_longestWait_165 ?_
            refine V.istore hc dX2_longestWait_166 rfl (lo' := [(12, o), (0, a1), (0, a2), (0, l3), (0, l4), (0, l5), (0, l6), (0, l7), (0, l8), (1, 0), (1, 0), (0, (h10 6 12 1) - 1), (0, t15), (0, ((h10 29 12 a1) - (h 29 12 a1)) + t19), (0, 0)]) rfl ?_
            obtain ⟨f28, hw⟩ := hw
            refine tX2_longestWait_168 hc hr ?_ f28 _ _ _ hw
            · intro l29 h30 hw
              refine V.iload hc dX2_longestWait_201 rfl ?_
              obtain ⟨q50, hw⟩ := hw
              have kJ51 : ∀ t47 t48 t49 : Int, ((t15 = 0 → ((t15 = 0 → (t47 = l3 ∧ t48 = l5 ∧ t49 = l6)) ∧ (¬ t15 = 0 → ((l29 ≤ l5 → (t47 = l3 ∧ t48 = l5 ∧ t49 = l6)) ∧ (¬ l29 ≤ l5 → ((((h10 6 12 1) - 1) - (h30 20 o l5) ≤ l6 → (t47 = l3 ∧ t48 = l5 + 1 ∧ t49 = l6)) ∧ (¬ ((h10 6 12 1) - 1) - (h30 20 o l5) ≤ l6 → (t47 = l3 ∧ t48 = l5 + 1 ∧ t49 = ((h10 6 12 1) - 1) - (h30 20 o l5))))))))) ∧ (¬ t15 = 0 → ((l3 ≤ 0 → ((t15 = 0 → (t47 = l3 ∧ t48 = l5 ∧ t49 = l6)) ∧ (¬ t15 = 0 → ((l29 ≤ l5 → (t47 = l3 ∧ t48 = l5 ∧ t49 = l6)) ∧ (¬ l29 ≤ l5 → ((((h10 6 12 1) - 1) - (h30 20 o l5) ≤ l6 → (t47 = l3 ∧ t48 = l5 + 1 ∧ t49 = l6)) ∧ (¬ ((h10 6 12 1) - 1) - (h30 20 o l5) ≤ l6 → (t47 = l3 ∧ t48 = l5 + 1 ∧ t49 = ((h10 6 12 1) - 1) - (h30 20 o l5))))))))) ∧ (¬ l3 ≤ 0 → (t47 = l3 + (-1) ∧ t48 = l5 ∧ t49 = l6))))) → V G p l e (rmD 12 0) s m args below meth c (MQ below (QI G P) args s 0 0 (va_Aof G)) 15 263 [(12, o), (0, a1), (0, a2), (0, t47), (0, l29), (0, t48), (0, t49), (0, l7), (0, l8), (1, 0), (1, 0), (1, 0), (1, 0), (1, 0), (1, 0)] [] h30 0 := by
                intro t47 t48 t49 he
                replace hw := hw t47 t48 t49 he
                clear he
                refine V.iinc hc dX2_longestWait_263 rfl rfl (lo' := [(12, o), (0, a1), (0, a2), (0, t47), (0, l29), (0, t48), (0, t49), (0, l7), (0, l8 + 1), (1, 0), (1, 0), (1, 0), (1, 0), (1, 0), (1, 0)]) rfl ?_
                refine V.goto hc (tgt := 44) dX2_longestWait_266 (by decide) ?_
                exact ih _ _ _ _ _ _ hw
              obtain ⟨g31, q52, q53⟩ := q50
              refine V.if_eq hc (tgt := 216) dX2_longestWait_203 (by decide) g31 (fun c54 => ?_) (fun c54 => ?_)
              · have q55 := q52 c54
                obtain ⟨g32, q56⟩ := q55
                refine V.iload hc dX2_longestWait_216 rfl ?_
                refine V.if_eq hc (tgt := 263) dX2_longestWait_218 (by decide) g32 (fun c57 => ?_) (fun c57 => ?_)
                · refine V.drop (lo' := [(12, o), (0, a1), (0, a2), (0, l3), (0, l29), (0, l5), (0, l6), (0, l7), (0, l8), (1, 0), (1, 0), (1, 0), (1, 0), (1, 0), (1, 0)]) ⟨Or.inr rfl, Or.inr rfl, Or.inr rfl, Or.inr rfl, Or.inr rfl, Or.inr rfl, Or.inr rfl, Or.inr rfl, Or.inr rfl, Or.inr rfl, Or.inr rfl, Or.inl rfl, Or.inl rfl, Or.inr rfl, Or.inr rfl, trivial⟩ ?_
                  exact kJ51 _ _ _ ⟨fun _ => ⟨fun _ => ⟨rfl, rfl, rfl⟩, (fun q => absurd c57 q)⟩, (fun q => absurd c54 q)⟩
                · have q58 := q56 c57
                  obtain ⟨g33, g34, q59⟩ := q58
                  refine V.iload hc dX2_longestWait_221 rfl ?_
                  refine V.iload hc dX2_longestWait_223 rfl ?_
                  refine V.icmp_ge hc (tgt := 263) dX2_longestWait_225 (by decide) g33 g34 (fun c60 => ?_) (fun c60 => ?_)
                  · refine V.drop (lo' := [(12, o), (0, a1), (0, a2), (0, l3), (0, l29), (0, l5), (0, l6), (0, l7), (0, l8), (1, 0), (1, 0), (1, 0), (1, 0), (1, 0), (1, 0)]) ⟨Or.inr rfl, Or.inr rfl, Or.inr rfl, Or.inr rfl, Or.inr rfl, Or.inr rfl, Or.inr rfl, Or.inr rfl, Or.inr rfl, Or.inr rfl, Or.inr rfl, Or.inl rfl, Or.inl rfl, Or.inr rfl, Or.inr rfl, trivial⟩ ?_
                    exact kJ51 _ _ _ ⟨fun _ => ⟨(fun q => absurd q c57), fun _ => ⟨fun _ => ⟨rfl, rfl, rfl⟩, (fun q => absurd c60 q)⟩⟩, (fun q => absurd c54 q)⟩
                  · have q61 := q59 c60
                    obtain ⟨g35, g36, g37, q62⟩ := q61
                    refine V.iload hc dX2_longestWait_228 rfl ?_
                    refine V.aload_n (t := 2) hc dX2_longestWait_230 rfl rfl ?_
                    refine V.gR hc gR_X2_11 (i' := o) rfl dX2_longestWait_231 ?_
                    refine V.iload hc dX2_longestWait_234 rfl ?_
                    refine V.ald hc ak_20 g35 dX2_longestWait_236 ?_
                    refine V.isub hc dX2_longestWait_237 ?_
                    refine V.iload hc dX2_longestWait_238 rfl ?_
                    refine V.icmp_le hc (tgt := 256) dX2_longestWait_240 (by decide) g36 g37 (fun c63 => ?_) (fun c63 => ?_)
                    · refine V.iload hc dX2_longestWait_256 rfl ?_
                      refine V.istore hc dX2_longestWait_258 rfl (lo' := [(12, o), (0, a1), (0, a2), (0, l3), (0, l29), (0, l5), (0, l6), (0, l7), (0, l8), (1, 0), (1, 0), (0, (h10 6 12 1) - 1), (0, t15), (1, 0), (1, 0)]) rfl ?_
                      refine V.iinc hc dX2_longestWait_260 rfl rfl (lo' := [(12, o), (0, a1), (0, a2), (0, l3), (0, l29), (0, l5 + 1), (0, l6), (0, l7), (0, l8), (1, 0), (1, 0), (0, (h10 6 12 1) - 1), (0, t15), (1, 0), (1, 0)]) rfl ?_
                      refine V.drop (lo' := [(12, o), (0, a1), (0, a2), (0, l3), (0, l29), (0, l5 + 1), (0, l6), (0, l7), (0, l8), (1, 0), (1, 0), (1, 0), (1, 0), (1, 0), (1, 0)]) ⟨Or.inr rfl, Or.inr rfl, Or.inr rfl, Or.inr rfl, Or.inr rfl, Or.inr rfl, Or.inr rfl, Or.inr rfl, Or.inr rfl, Or.inr rfl, Or.inr rfl, Or.inl rfl, Or.inl rfl, Or.inr rfl, Or.inr rfl, trivial⟩ ?_
                      exact kJ51 _ _ _ ⟨fun _ => ⟨(fun q => absurd q c57), fun _ => ⟨(fun q => absurd q c60), fun _ => ⟨fun _ => ⟨rfl, rfl, rfl⟩, (fun q => absurd c63 q)⟩⟩⟩, (fun q => absurd c54 q)⟩
                    · have q64 := q62 c63
                      have g38 := q64
                      refine V.iload hc dX2_longestWait_243 rfl ?_
                      refine V.aload_n (t := 2) hc dX2_longestWait_245 rfl rfl ?_
                      refine V.gR hc gR_X2_11 (i' := o) rfl dX2_longestWait_246 ?_
                      refine V.iload hc dX2_longestWait_249 rfl ?_
                      refine V.ald hc ak_20 g38 dX2_longestWait_251 ?_
                      refine V.isub hc dX2_longestWait_252 ?_
                      refine V.goto hc (tgt := 258) dX2_longestWait_253 (by decide) ?_
                      refine V.istore hc dX2_longestWait_258 rfl (lo' := [(12, o), (0, a1), (0, a2), (0, l3), (0, l29), (0, l5), (0, ((h10 6 12 1) - 1) - (h30 20 o l5)), (0, l7), (0, l8), (1, 0), (1, 0), (0, (h10 6 12 1) - 1), (0, t15), (1, 0), (1, 0)]) rfl ?_
                      refine V.iinc hc dX2_longestWait_260 rfl rfl (lo' := [(12, o), (0, a1), (0, a2), (0, l3), (0, l29), (0, l5 + 1), (0, ((h10 6 12 1) - 1) - (h30 20 o l5)), (0, l7), (0, l8), (1, 0), (1, 0), (0, (h10 6 12 1) - 1), (0, t15), (1, 0), (1, 0)]) rfl ?_
                      refine V.drop (lo' := [(12, o), (0, a1), (0, a2), (0, l3), (0, l29), (0, l5 + 1), (0, ((h10 6 12 1) - 1) - (h30 20 o l5)), (0, l7), (0, l8), (1, 0), (1, 0), (1, 0), (1, 0), (1, 0), (1, 0)]) ⟨Or.inr rfl, Or.inr rfl, Or.inr rfl, Or.inr rfl, Or.inr rfl, Or.inr rfl, Or.inr rfl, Or.inr rfl, Or.inr rfl, Or.inr rfl, Or.inr rfl, Or.inl rfl, Or.inl rfl, Or.inr rfl, Or.inr rfl, trivial⟩ ?_
                      exact kJ51 _ _ _ ⟨fun _ => ⟨(fun q => absurd q c57), fun _ => ⟨(fun q => absurd q c60), fun _ => ⟨(fun q => absurd q c63), fun _ => ⟨rfl, rfl, rfl⟩⟩⟩⟩, (fun q => absurd c54 q)⟩
              · have q65 := q53 c54
                obtain ⟨g39, q66⟩ := q65
                refine V.iload_n hc dX2_longestWait_206 rfl rfl ?_
                refine V.if_le hc (tgt := 216) dX2_longestWait_207 (by decide) g39 (fun c67 => ?_) (fun c67 => ?_)
                · have q68 := q66 c67
                  obtain ⟨g40, q69⟩ := q68
                  refine V.iload hc dX2_longestWait_216 rfl ?_
                  refine V.if_eq hc (tgt := 263) dX2_longestWait_218 (by decide) g40 (fun c70 => ?_) (fun c70 => ?_)
                  · refine V.drop (lo' := [(12, o), (0, a1), (0, a2), (0, l3), (0, l29), (0, l5), (0, l6), (0, l7), (0, l8), (1, 0), (1, 0), (1, 0), (1, 0), (1, 0), (1, 0)]) ⟨Or.inr rfl, Or.inr rfl, Or.inr rfl, Or.inr rfl, Or.inr rfl, Or.inr rfl, Or.inr rfl, Or.inr rfl, Or.inr rfl, Or.inr rfl, Or.inr rfl, Or.inl rfl, Or.inl rfl, Or.inr rfl, Or.inr rfl, trivial⟩ ?_
                    exact kJ51 _ _ _ ⟨(fun q => absurd q c54), fun _ => ⟨fun _ => ⟨fun _ => ⟨rfl, rfl, rfl⟩, (fun q => absurd c70 q)⟩, (fun q => absurd c67 q)⟩⟩
                  · have q71 := q69 c70
                    obtain ⟨g41, g42, q72⟩ := q71
                    refine V.iload hc dX2_longestWait_221 rfl ?_
                    refine V.iload hc dX2_longestWait_223 rfl ?_
                    refine V.icmp_ge hc (tgt := 263) dX2_longestWait_225 (by decide) g41 g42 (fun c73 => ?_) (fun c73 => ?_)
                    · refine V.drop (lo' := [(12, o), (0, a1), (0, a2), (0, l3), (0, l29), (0, l5), (0, l6), (0, l7), (0, l8), (1, 0), (1, 0), (1, 0), (1, 0), (1, 0), (1, 0)]) ⟨Or.inr rfl, Or.inr rfl, Or.inr rfl, Or.inr rfl, Or.inr rfl, Or.inr rfl, Or.inr rfl, Or.inr rfl, Or.inr rfl, Or.inr rfl, Or.inr rfl, Or.inl rfl, Or.inl rfl, Or.inr rfl, Or.inr rfl, trivial⟩ ?_
                      exact kJ51 _ _ _ ⟨(fun q => absurd q c54), fun _ => ⟨fun _ => ⟨(fun q => absurd q c70), fun _ => ⟨fun _ => ⟨rfl, rfl, rfl⟩, (fun q => absurd c73 q)⟩⟩, (fun q => absurd c67 q)⟩⟩
                    · have q74 := q72 c73
                      obtain ⟨g43, g44, g45, q75⟩ := q74
                      refine V.iload hc dX2_longestWait_228 rfl ?_
                      refine V.aload_n (t := 2) hc dX2_longestWait_230 rfl rfl ?_
                      refine V.gR hc gR_X2_11 (i' := o) rfl dX2_longestWait_231 ?_
                      refine V.iload hc dX2_longestWait_234 rfl ?_
                      refine V.ald hc ak_20 g43 dX2_longestWait_236 ?_
                      refine V.isub hc dX2_longestWait_237 ?_
                      refine V.iload hc dX2_longestWait_238 rfl ?_
                      refine V.icmp_le hc (tgt := 256) dX2_longestWait_240 (by decide) g44 g45 (fun c76 => ?_) (fun c76 => ?_)
                      · refine V.iload hc dX2_longestWait_256 rfl ?_
                        refine V.istore hc dX2_longestWait_258 rfl (lo' := [(12, o), (0, a1), (0, a2), (0, l3), (0, l29), (0, l5), (0, l6), (0, l7), (0, l8), (1, 0), (1, 0), (0, (h10 6 12 1) - 1), (0, t15), (1, 0), (1, 0)]) rfl ?_
                        refine V.iinc hc dX2_longestWait_260 rfl rfl (lo' := [(12, o), (0, a1), (0, a2), (0, l3), (0, l29), (0, l5 + 1), (0, l6), (0, l7), (0, l8), (1, 0), (1, 0), (0, (h10 6 12 1) - 1), (0, t15), (1, 0), (1, 0)]) rfl ?_
                        refine V.drop (lo' := [(12, o), (0, a1), (0, a2), (0, l3), (0, l29), (0, l5 + 1), (0, l6), (0, l7), (0, l8), (1, 0), (1, 0), (1, 0), (1, 0), (1, 0), (1, 0)]) ⟨Or.inr rfl, Or.inr rfl, Or.inr rfl, Or.inr rfl, Or.inr rfl, Or.inr rfl, Or.inr rfl, Or.inr rfl, Or.inr rfl, Or.inr rfl, Or.inr rfl, Or.inl rfl, Or.inl rfl, Or.inr rfl, Or.inr rfl, trivial⟩ ?_
                        exact kJ51 _ _ _ ⟨(fun q => absurd q c54), fun _ => ⟨fun _ => ⟨(fun q => absurd q c70), fun _ => ⟨(fun q => absurd q c73), fun _ => ⟨fun _ => ⟨rfl, rfl, rfl⟩, (fun q => absurd c76 q)⟩⟩⟩, (fun q => absurd c67 q)⟩⟩
                      · have q77 := q75 c76
                        have g46 := q77
                        refine V.iload hc dX2_longestWait_243 rfl ?_
                        refine V.aload_n (t := 2) hc dX2_longestWait_245 rfl rfl ?_
                        refine V.gR hc gR_X2_11 (i' := o) rfl dX2_longestWait_246 ?_
                        refine V.iload hc dX2_longestWait_249 rfl ?_
                        refine V.ald hc ak_20 g46 dX2_longestWait_251 ?_
                        refine V.isub hc dX2_longestWait_252 ?_
                        refine V.goto hc (tgt := 258) dX2_longestWait_253 (by decide) ?_
                        refine V.istore hc dX2_longestWait_258 rfl (lo' := [(12, o), (0, a1), (0, a2), (0, l3), (0, l29), (0, l5), (0, ((h10 6 12 1) - 1) - (h30 20 o l5)), (0, l7), (0, l8), (1, 0), (1, 0), (0, (h10 6 12 1) - 1), (0, t15), (1, 0), (1, 0)]) rfl ?_
                        refine V.iinc hc dX2_longestWait_260 rfl rfl (lo' := [(12, o), (0, a1), (0, a2), (0, l3), (0, l29), (0, l5 + 1), (0, ((h10 6 12 1) - 1) - (h30 20 o l5)), (0, l7), (0, l8), (1, 0), (1, 0), (0, (h10 6 12 1) - 1), (0, t15), (1, 0), (1, 0)]) rfl ?_
                        refine V.drop (lo' := [(12, o), (0, a1), (0, a2), (0, l3), (0, l29), (0, l5 + 1), (0, ((h10 6 12 1) - 1) - (h30 20 o l5)), (0, l7), (0, l8), (1, 0), (1, 0), (1, 0), (1, 0), (1, 0), (1, 0)]) ⟨Or.inr rfl, Or.inr rfl, Or.inr rfl, Or.inr rfl, Or.inr rfl, Or.inr rfl, Or.inr rfl, Or.inr rfl, Or.inr rfl, Or.inr rfl, Or.inr rfl, Or.inl rfl, Or.inl rfl, Or.inr rfl, Or.inr rfl, trivial⟩ ?_
                        exact kJ51 _ _ _ ⟨(fun q => absurd q c54), fun _ => ⟨fun _ => ⟨(fun q => absurd q c70), fun _ => ⟨(fun q => absurd q c73), fun _ => ⟨(fun q => absurd q c76), fun _ => ⟨rfl, rfl, rfl⟩⟩⟩⟩, (fun q => absurd c67 q)⟩⟩
                · refine V.iinc hc dX2_longestWait_210 rfl rfl (lo' := [(12, o), (0, a1), (0, a2), (0, l3 + (-1)), (0, l29), (0, l5), (0, l6), (0, l7), (0, l8), (1, 0), (1, 0), (0, (h10 6 12 1) - 1), (0, t15), (1, 0), (1, 0)]) rfl ?_
                  refine V.goto hc (tgt := 263) dX2_longestWait_213 (by decide) ?_
                  refine V.drop (lo' := [(12, o), (0, a1), (0, a2), (0, l3 + (-1)), (0, l29), (0, l5), (0, l6), (0, l7), (0, l8), (1, 0), (1, 0), (1, 0), (1, 0), (1, 0), (1, 0)]) ⟨Or.inr rfl, Or.inr rfl, Or.inr rfl, Or.inr rfl, Or.inr rfl, Or.inr rfl, Or.inr rfl, Or.inr rfl, Or.inr rfl, Or.inr rfl, Or.inr rfl, Or.inl rfl, Or.inl rfl, Or.inr rfl, Or.inr rfl, trivial⟩ ?_
                  exact kJ51 _ _ _ ⟨(fun q => absurd q c54), fun _ => ⟨(fun q => absurd q c67), fun _ => ⟨rfl, rfl, rfl⟩⟩⟩
          have g18 := q20
          refine V.if_eq hc (tgt := 161) dX2_longestWait_154 (by decide) g18 (fun c79 => ?_) (fun c79 => ?_)
          · refine V.iconst hc dX2_longestWait_161 ?_
            refine V.drop (lo' := [(12, o), (0, a1), (0, a2), (0, l3), (0, l4), (0, l5), (0, l6), (0, l7), (0, l8), (1, 0), (1, 0), (0, (h10 6 12 1) - 1), (0, t15), (1, 0), (1, 0)]) ⟨Or.inr rfl, Or.inr rfl, Or.inr rfl, Or.inr rfl, Or.inr rfl, Or.inr rfl, Or.inr rfl, Or.inr rfl, Or.inr rfl, Or.inr rfl, Or.inl rfl, Or.inr rfl, Or.inr rfl, Or.inr rfl, Or.inr rfl, trivial⟩ ?_
            exact kJ78 _ ⟨fun _ => rfl, (fun q => absurd c79 q)⟩
          · refine V.iconst hc dX2_longestWait_157 ?_
            refine V.goto hc (tgt := 162) dX2_longestWait_158 (by decide) ?_
            refine V.drop (lo' := [(12, o), (0, a1), (0, a2), (0, l3), (0, l4), (0, l5), (0, l6), (0, l7), (0, l8), (1, 0), (1, 0), (0, (h10 6 12 1) - 1), (0, t15), (1, 0), (1, 0)]) ⟨Or.inr rfl, Or.inr rfl, Or.inr rfl, Or.inr rfl, Or.inr rfl, Or.inr rfl, Or.inr rfl, Or.inr rfl, Or.inr rfl, Or.inr rfl, Or.inl rfl, Or.inr rfl, Or.inr rfl, Or.inr rfl, Or.inr rfl, trivial⟩ ?_
            exact kJ78 _ ⟨(fun q => absurd q c79), fun _ => rfl⟩
        obtain ⟨g11, g12, q81⟩ := q16
        refine V.icmp_le hc (tgt := 137) dX2_longestWait_119 (by decide) g11 g12 (fun c82 => ?_) (fun c82 => ?_)
        · refine V.iconst hc dX2_longestWait_137 ?_
          refine V.drop (lo' := [(12, o), (0, a1), (0, a2), (0, l3), (0, l4), (0, l5), (0, l6), (0, l7), (0, l8), (1, 0), (0, h 29 12 a1), (0, (h10 6 12 1) - 1), (1, 0), (1, 0), (1, 0)]) ⟨Or.inr rfl, Or.inr rfl, Or.inr rfl, Or.inr rfl, Or.inr rfl, Or.inr rfl, Or.inr rfl, Or.inr rfl, Or.inr rfl, Or.inl rfl, Or.inr rfl, Or.inr rfl, Or.inr rfl, Or.inr rfl, Or.inr rfl, trivial⟩ ?_
          exact kJ80 _ ⟨fun _ => rfl, (fun q => absurd c82 q)⟩
        · have q83 := q81 c82
          obtain ⟨g13, g14⟩ := q83
          refine V.aload_n (t := 2) hc dX2_longestWait_122 rfl rfl ?_
          refine V.gR hc gR_X2_23 (i' := 12) rfl dX2_longestWait_123 ?_
          refine V.gI hc gI_X2_69 rfl dX2_longestWait_126 ?_
          refine V.iload_n hc dX2_longestWait_129 rfl rfl ?_
          refine V.icmp_ne hc (tgt := 137) dX2_longestWait_130 (by decide) g13 g14 (fun c84 => ?_) (fun c84 => ?_)
          · refine V.iconst hc dX2_longestWait_137 ?_
            refine V.drop (lo' := [(12, o), (0, a1), (0, a2), (0, l3), (0, l4), (0, l5), (0, l6), (0, l7), (0, l8), (1, 0), (0, h 29 12 a1), (0, (h10 6 12 1) - 1), (1, 0), (1, 0), (1, 0)]) ⟨Or.inr rfl, Or.inr rfl, Or.inr rfl, Or.inr rfl, Or.inr rfl, Or.inr rfl, Or.inr rfl, Or.inr rfl, Or.inr rfl, Or.inl rfl, Or.inr rfl, Or.inr rfl, Or.inr rfl, Or.inr rfl, Or.inr rfl, trivial⟩ ?_
            exact kJ80 _ ⟨(fun q => absurd q c82), fun _ => ⟨fun _ => rfl, (fun q => absurd q c84)⟩⟩
          · refine V.iconst hc dX2_longestWait_133 ?_
            refine V.goto hc (tgt := 138) dX2_longestWait_134 (by decide) ?_
            refine V.drop (lo' := [(12, o), (0, a1), (0, a2), (0, l3), (0, l4), (0, l5), (0, l6), (0, l7), (0, l8), (1, 0), (0, h 29 12 a1), (0, (h10 6 12 1) - 1), (1, 0), (1, 0), (1, 0)]) ⟨Or.inr rfl, Or.inr rfl, Or.inr rfl, Or.inr rfl, Or.inr rfl, Or.inr rfl, Or.inr rfl, Or.inr rfl, Or.inr rfl, Or.inl rfl, Or.inr rfl, Or.inr rfl, Or.inr rfl, Or.inr rfl, Or.inr rfl, trivial⟩ ?_
            exact kJ80 _ ⟨(fun q => absurd q c82), fun _ => ⟨(fun q => absurd c84 q), fun _ => rfl⟩⟩
theorem qX2_longestWait (G : GG) (l : Launch) (o : Int) (a1 : Int) (a2 : Int) (h : HP) (P : Int → HP → Prop) (hw : wX2_longestWait o a1 a2 h P) : CnI l G yX2_longestWait cX2_longestWait 15 (some .int) 12 [(12, o), (0, a1), (0, a2)] h P := by
  refine CnI.of (lo := [(12, o), (0, a1), (0, a2), (1, 0), (1, 0), (1, 0), (1, 0), (1, 0), (1, 0), (1, 0), (1, 0), (1, 0), (1, 0), (1, 0), (1, 0)]) (by decide) rfl rfl rfl ?_
  intro p e s m args below meth c hc hr
  have hc : VC G p (rmD 12 0) s m args meth c RX2 cX2_longestWait 15 12 := hc
  refine V.aload_n (t := 2) hc dX2_longestWait_0 rfl rfl ?_
  refine V.gR hc gR_X2_23 (i' := 12) rfl dX2_longestWait_1 ?_
  refine V.aload_n (t := 2) hc dX2_longestWait_4 rfl rfl ?_
  refine V.gR hc gR_X2_19 (i' := 10) rfl dX2_longestWait_5 ?_
  refine V.callVV hc (qX6_copyFrom G l _ _ _ _ hw) mo_X6_copyFrom ml_X2_26 (by rfl) rfl rfl (as := [(16, 10)]) rfl rfl rfl rfl rfl ⟨Nat.zero_le _, Nat.zero_le _⟩ dX2_longestWait_8 (fun h1 hw => ?_)
  refine V.aload_n (t := 2) hc dX2_longestWait_11 rfl rfl ?_
  refine V.gR hc gR_X2_19 (i' := 10) rfl dX2_longestWait_12 ?_
  refine V.gR hc gR_X2_76 (i' := 10) rfl dX2_longestWait_15 ?_
  refine V.iload_n hc dX2_longestWait_18 rfl rfl ?_
  obtain ⟨g2, hw⟩ := hw
  refine V.ald hc ak_29 g2 dX2_longestWait_19 ?_
  refine V.istore_n hc dX2_longestWait_20 rfl rfl (lo' := [(12, o), (0, a1), (0, a2), (0, h1 29 10 a1), (1, 0), (1, 0), (1, 0), (1, 0), (1, 0), (1, 0), (1, 0), (1, 0), (1, 0), (1, 0), (1, 0)]) rfl ?_
  refine V.iconst hc dX2_longestWait_21 ?_
  refine V.istore hc dX2_longestWait_22 rfl (lo' := [(12, o), (0, a1), (0, a2), (0, h1 29 10 a1), (0, 0), (1, 0), (1, 0), (1, 0), (1, 0), (1, 0), (1, 0), (1, 0), (1, 0), (1, 0), (1, 0)]) rfl ?_
  refine V.iconst hc dX2_longestWait_24 ?_
  refine V.istore hc dX2_longestWait_25 rfl (lo' := [(12, o), (0, a1), (0, a2), (0, h1 29 10 a1), (0, 0), (0, 0), (1, 0), (1, 0), (1, 0), (1, 0), (1, 0), (1, 0), (1, 0), (1, 0), (1, 0)]) rfl ?_
  refine V.iconst hc dX2_longestWait_27 ?_
  refine V.istore hc dX2_longestWait_28 rfl (lo' := [(12, o), (0, a1), (0, a2), (0, h1 29 10 a1), (0, 0), (0, 0), (0, (-1)), (1, 0), (1, 0), (1, 0), (1, 0), (1, 0), (1, 0), (1, 0), (1, 0)]) rfl ?_
  refine V.aload_n (t := 2) hc dX2_longestWait_30 rfl rfl ?_
  refine V.gR hc gR_X2_19 (i' := 10) rfl dX2_longestWait_31 ?_
  refine V.gI hc gI_X2_56 rfl dX2_longestWait_34 ?_
  refine V.iload_n hc dX2_longestWait_37 rfl rfl ?_
  refine V.iadd hc dX2_longestWait_38 ?_
  refine V.istore hc dX2_longestWait_39 rfl (lo' := [(12, o), (0, a1), (0, a2), (0, h1 29 10 a1), (0, 0), (0, 0), (0, (-1)), (0, (h1 6 10 1) + a2), (1, 0), (1, 0), (1, 0), (1, 0), (1, 0), (1, 0), (1, 0)]) rfl ?_
  refine V.iconst hc dX2_longestWait_41 ?_
  refine V.istore hc dX2_longestWait_42 rfl (lo' := [(12, o), (0, a1), (0, a2), (0, h1 29 10 a1), (0, 0), (0, 0), (0, (-1)), (0, (h1 6 10 1) + a2), (0, 0), (1, 0), (1, 0), (1, 0), (1, 0), (1, 0), (1, 0)]) rfl ?_
  obtain ⟨f85, hw⟩ := hw
  refine tX2_longestWait_44 hc hr ?_ f85 _ _ _ _ _ _ hw
  · intro l86 h87 hw
    refine V.iload hc dX2_longestWait_269 rfl ?_
    exact V.iret hc hr dX2_longestWait_271 hw
theorem tX2_leastShare_3 {G : GG} {p : Program} {l : Launch} {e : Jvm.Env} {s : State} {m : MethodId} {args : Array Value} {below : List Frame} {meth : Method} {c : Code} {P : Int → HP → Prop} (hc : VC G p (rmD 13 0) s m args meth c RX2 cX2_leastShare 5 13) (hr : meth.sig.returnType = some .int) {o : Int} {a1 : Int} {a2 : Int} {a3 : Int} {K75 : HP → Prop} {K66 : Int → HP → Prop} (hK75 : ∀  (h : HP), K75  h → V G p l e (rmD 13 0) s m args below meth c (MQ below (QI G P) args s 0 0 (va_Aof G)) 5 75 [(1, 0), (1, 0), (1, 0), (1, 0), (1, 0)] [] h 0) (hK66 : ∀ (x4 : Int) (h : HP), K66 x4 h → V G p l e (rmD 13 0) s m args below meth c (MQ below (QI G P) args s 0 0 (va_Aof G)) 5 66 [(1, 0), (1, 0), (1, 0), (1, 0), (0, x4)] [] h 0) : ∀ (f : Nat) (l4 : Int) (h : HP), wX2_leastShare_3 o a1 a2 a3 K75 K66 f l4 h → V G p l e (rmD 13 0) s m args below meth c (MQ below (QI G P) args s 0 0 (va_Aof G)) 5 3 [(12, o), (0, a1), (0, a2), (0, a3), (0, l4)] [] h 0 := by
  intro f
  induction f with
  | zero =>
    intro l4 h hw
    exact hw.elim
  | succ f ih =>
    intro l4 h hw
    refine V.iload hc dX2_leastShare_3 rfl ?_
    refine V.bipush hc dX2_leastShare_5 (by decide) ?_
    obtain ⟨g1, hw⟩ := hw
    refine V.icmp_gt hc (tgt := 75) dX2_leastShare_7 (by decide) g1 (by omega) (fun c2 => ?_) (fun c2 => ?_)
    · replace hw := hw.1 c2
      refine V.drop (lo' := [(1, 0), (1, 0), (1, 0), (1, 0), (1, 0)]) ⟨Or.inl rfl, Or.inl rfl, Or.inl rfl, Or.inl rfl, Or.inl rfl, trivial⟩ ?_
      exact hK75 _ hw
    · replace hw := hw.2 c2
      refine V.aload_n (t := 2) hc dX2_leastShare_10 rfl rfl ?_
      refine V.gR hc gR_X2_23 (i' := 12) rfl dX2_leastShare_11 ?_
      refine V.aload_n (t := 2) hc dX2_leastShare_14 rfl rfl ?_
      refine V.gR hc gR_X2_19 (i' := 10) rfl dX2_leastShare_15 ?_
      refine V.callVV hc (qX6_copyFrom G l _ _ _ _ hw) mo_X6_copyFrom ml_X2_26 (by rfl) rfl rfl (as := [(16, 10)]) rfl rfl rfl rfl rfl ⟨Nat.zero_le _, Nat.zero_le _⟩ dX2_leastShare_18 (fun h3 hw => ?_)
      refine V.aload_n (t := 2) hc dX2_leastShare_21 rfl rfl ?_
      refine V.gR hc gR_X2_23 (i' := 12) rfl dX2_leastShare_22 ?_
      refine V.iload_n hc dX2_leastShare_25 rfl rfl ?_
      refine V.iconst hc dX2_leastShare_26 ?_
      refine V.iload hc dX2_leastShare_27 rfl ?_
      refine V.iconst hc dX2_leastShare_29 ?_
      refine V.iload hc dX2_leastShare_30 rfl ?_
      refine V.callVV hc (qX6_changeCurve G l _ _ _ _ _ _ _ _ hw) mo_X6_changeCurve ml_X2_81 (by rfl) rfl rfl (as := [(0, a1), (0, 1), (0, l4), (0, 0), (0, l4)]) rfl rfl rfl rfl rfl ⟨Nat.zero_le _, Nat.zero_le _⟩ dX2_leastShare_32 (fun h4 hw => ?_)
      refine V.aload_n (t := 2) hc dX2_leastShare_35 rfl rfl ?_
      refine V.gR hc gR_X2_23 (i' := 12) rfl dX2_leastShare_36 ?_
      refine V.iload_n hc dX2_leastShare_39 rfl rfl ?_
      refine V.callVV hc (qX6_pass G l _ _ _ _ hw) mo_X6_pass ml_X2_32 (by rfl) rfl rfl (as := [(0, a3)]) rfl rfl rfl rfl rfl ⟨Nat.zero_le _, Nat.zero_le _⟩ dX2_leastShare_40 (fun h5 hw => ?_)
      refine V.aload_n (t := 2) hc dX2_leastShare_43 rfl rfl ?_
      refine V.gR hc gR_X2_23 (i' := 12) rfl dX2_leastShare_44 ?_
      refine V.gR hc gR_X2_36 (i' := 12) rfl dX2_leastShare_47 ?_
      refine V.iload_n hc dX2_leastShare_50 rfl rfl ?_
      obtain ⟨g6, hw⟩ := hw
      refine V.ald hc ak_24 g6 dX2_leastShare_51 ?_
      refine V.aload_n (t := 2) hc dX2_leastShare_52 rfl rfl ?_
      refine V.gR hc gR_X2_19 (i' := 10) rfl dX2_leastShare_53 ?_
      refine V.gR hc gR_X2_36 (i' := 10) rfl dX2_leastShare_56 ?_
      refine V.iload_n hc dX2_leastShare_59 rfl rfl ?_
      obtain ⟨g7, hw⟩ := hw
      refine V.ald hc ak_24 g7 dX2_leastShare_60 ?_
      refine V.isub hc dX2_leastShare_61 ?_
      refine V.iload_n hc dX2_leastShare_62 rfl rfl ?_
      obtain ⟨g8, hw⟩ := hw
      obtain ⟨g9, hw⟩ := hw
      refine V.icmp_lt hc (tgt := 69) dX2_leastShare_63 (by decide) g8 g9 (fun c10 => ?_) (fun c10 => ?_)
      · replace hw := hw.1 c10
        refine V.iinc hc dX2_leastShare_69 rfl rfl (lo' := [(12, o), (0, a1), (0, a2), (0, a3), (0, l4 + 1)]) rfl ?_
        refine V.goto hc (tgt := 3) dX2_leastShare_72 (by decide) ?_
        exact ih _ _ hw
      · replace hw := hw.2 c10
        refine V.drop (lo' := [(1, 0), (1, 0), (1, 0), (1, 0), (0, l4)]) ⟨Or.inl rfl, Or.inl rfl, Or.inl rfl, Or.inl rfl, Or.inr rfl, trivial⟩ ?_
        exact hK66 _ _ hw
theorem qX2_leastShare (G : GG) (l : Launch) (o : Int) (a1 : Int) (a2 : Int) (a3 : Int) (h : HP) (P : Int → HP → Prop) (hw : wX2_leastShare o a1 a2 a3 h P) : CnI l G yX2_leastShare cX2_leastShare 5 (some .int) 13 [(12, o), (0, a1), (0, a2), (0, a3)] h P := by
  refine CnI.of (lo := [(12, o), (0, a1), (0, a2), (0, a3), (1, 0)]) (by decide) rfl rfl rfl ?_
  intro p e s m args below meth c hc hr
  have hc : VC G p (rmD 13 0) s m args meth c RX2 cX2_leastShare 5 13 := hc
  refine V.iconst hc dX2_leastShare_0 ?_
  refine V.istore hc dX2_leastShare_1 rfl (lo' := [(12, o), (0, a1), (0, a2), (0, a3), (0, 1)]) rfl ?_
  obtain ⟨f11, hw⟩ := hw
  refine tX2_leastShare_3 hc hr ?_ ?_ f11 _ _ hw
  · intro h12 hw
    refine V.iconst hc dX2_leastShare_75 ?_
    exact V.iret hc hr dX2_leastShare_76 hw
  · intro l13 h14 hw
    refine V.iload hc dX2_leastShare_66 rfl ?_
    exact V.iret hc hr dX2_leastShare_68 hw
theorem tX2_greatestCap_4 {G : GG} {p : Program} {l : Launch} {e : Jvm.Env} {s : State} {m : MethodId} {args : Array Value} {below : List Frame} {meth : Method} {c : Code} {P : Int → HP → Prop} (hc : VC G p (rmD 13 0) s m args meth c RX2 cX2_greatestCap 5 13) (hr : meth.sig.returnType = some .int) {o : Int} {a1 : Int} {a2 : Int} {a3 : Int} {K56 : HP → Prop} {K47 : Int → HP → Prop} (hK56 : ∀  (h : HP), K56  h → V G p l e (rmD 13 0) s m args below meth c (MQ below (QI G P) args s 0 0 (va_Aof G)) 5 56 [(1, 0), (1, 0), (1, 0), (1, 0), (1, 0)] [] h 0) (hK47 : ∀ (x4 : Int) (h : HP), K47 x4 h → V G p l e (rmD 13 0) s m args below meth c (MQ below (QI G P) args s 0 0 (va_Aof G)) 5 47 [(1, 0), (1, 0), (1, 0), (1, 0), (0, x4)] [] h 0) : ∀ (f : Nat) (l4 : Int) (h : HP), wX2_greatestCap_4 o a1 a2 a3 K56 K47 f l4 h → V G p l e (rmD 13 0) s m args below meth c (MQ below (QI G P) args s 0 0 (va_Aof G)) 5 4 [(12, o), (0, a1), (0, a2), (0, a3), (0, l4)] [] h 0 := by
  intro f
  induction f with
  | zero =>
    intro l4 h hw
    exact hw.elim
  | succ f ih =>
    intro l4 h hw
    refine V.iload hc dX2_greatestCap_4 rfl ?_
    refine V.iconst hc dX2_greatestCap_6 ?_
    obtain ⟨g1, hw⟩ := hw
    refine V.icmp_lt hc (tgt := 56) dX2_greatestCap_7 (by decide) g1 (by omega) (fun c2 => ?_) (fun c2 => ?_)
    · replace hw := hw.1 c2
      refine V.drop (lo' := [(1, 0), (1, 0), (1, 0), (1, 0), (1, 0)]) ⟨Or.inl rfl, Or.inl rfl, Or.inl rfl, Or.inl rfl, Or.inl rfl, trivial⟩ ?_
      exact hK56 _ hw
    · replace hw := hw.2 c2
      refine V.aload_n (t := 2) hc dX2_greatestCap_10 rfl rfl ?_
      refine V.gR hc gR_X2_23 (i' := 12) rfl dX2_greatestCap_11 ?_
      refine V.aload_n (t := 2) hc dX2_greatestCap_14 rfl rfl ?_
      refine V.gR hc gR_X2_19 (i' := 10) rfl dX2_greatestCap_15 ?_
      refine V.callVV hc (qX6_copyFrom G l _ _ _ _ hw) mo_X6_copyFrom ml_X2_26 (by rfl) rfl rfl (as := [(16, 10)]) rfl rfl rfl rfl rfl ⟨Nat.zero_le _, Nat.zero_le _⟩ dX2_greatestCap_18 (fun h3 hw => ?_)
      refine V.aload_n (t := 2) hc dX2_greatestCap_21 rfl rfl ?_
      refine V.gR hc gR_X2_23 (i' := 12) rfl dX2_greatestCap_22 ?_
      refine V.iload_n hc dX2_greatestCap_25 rfl rfl ?_
      refine V.iconst hc dX2_greatestCap_26 ?_
      refine V.iload hc dX2_greatestCap_27 rfl ?_
      refine V.iconst hc dX2_greatestCap_29 ?_
      refine V.iload hc dX2_greatestCap_30 rfl ?_
      refine V.callVV hc (qX6_changeCurve G l _ _ _ _ _ _ _ _ hw) mo_X6_changeCurve ml_X2_81 (by rfl) rfl rfl (as := [(0, a1), (0, 2), (0, l4), (0, 0), (0, l4)]) rfl rfl rfl rfl rfl ⟨Nat.zero_le _, Nat.zero_le _⟩ dX2_greatestCap_32 (fun h4 hw => ?_)
      refine V.aload_n (t := 2) hc dX2_greatestCap_35 rfl rfl ?_
      refine V.iload_n hc dX2_greatestCap_36 rfl rfl ?_
      refine V.iload_n hc dX2_greatestCap_37 rfl rfl ?_
      refine V.iconst hc dX2_greatestCap_38 ?_
      refine V.iadd hc dX2_greatestCap_39 ?_
      refine V.callVI hc (qX2_waitOnLater G l _ _ _ _ _ hw) mo_X2_waitOnLater ml_X2_72 (by rfl) rfl rfl (as := [(0, a2), (0, a3 + 1)]) rfl rfl rfl rfl rfl ⟨Nat.zero_le _, Nat.zero_le _⟩ dX2_greatestCap_40 (fun x6 h5 hw => ?_)
      refine V.iconst hc dX2_greatestCap_43 ?_
      obtain ⟨g7, hw⟩ := hw
      refine V.icmp_eq hc (tgt := 50) dX2_greatestCap_44 (by decide) g7 (by omega) (fun c8 => ?_) (fun c8 => ?_)
      · replace hw := hw.1 c8
        refine V.iinc hc dX2_greatestCap_50 rfl rfl (lo' := [(12, o), (0, a1), (0, a2), (0, a3), (0, l4 + (-1))]) rfl ?_
        refine V.goto hc (tgt := 4) dX2_greatestCap_53 (by decide) ?_
        exact ih _ _ hw
      · replace hw := hw.2 c8
        refine V.drop (lo' := [(1, 0), (1, 0), (1, 0), (1, 0), (0, l4)]) ⟨Or.inl rfl, Or.inl rfl, Or.inl rfl, Or.inl rfl, Or.inr rfl, trivial⟩ ?_
        exact hK47 _ _ hw
theorem qX2_greatestCap (G : GG) (l : Launch) (o : Int) (a1 : Int) (a2 : Int) (a3 : Int) (h : HP) (P : Int → HP → Prop) (hw : wX2_greatestCap o a1 a2 a3 h P) : CnI l G yX2_greatestCap cX2_greatestCap 5 (some .int) 13 [(12, o), (0, a1), (0, a2), (0, a3)] h P := by
  refine CnI.of (lo := [(12, o), (0, a1), (0, a2), (0, a3), (1, 0)]) (by decide) rfl rfl rfl ?_
  intro p e s m args below meth c hc hr
  have hc : VC G p (rmD 13 0) s m args meth c RX2 cX2_greatestCap 5 13 := hc
  refine V.bipush hc dX2_greatestCap_0 (by decide) ?_
  refine V.istore hc dX2_greatestCap_2 rfl (lo' := [(12, o), (0, a1), (0, a2), (0, a3), (0, 100)]) rfl ?_
  obtain ⟨f9, hw⟩ := hw
  refine tX2_greatestCap_4 hc hr ?_ ?_ f9 _ _ hw
  · intro h10 hw
    refine V.iconst hc dX2_greatestCap_56 ?_
    exact V.iret hc hr dX2_greatestCap_57 hw
  · intro l11 h12 hw
    refine V.iload hc dX2_greatestCap_47 rfl ?_
    exact V.iret hc hr dX2_greatestCap_49 hw
theorem tX2_bytesAhead_130 {G : GG} {p : Program} {l : Launch} {e : Jvm.Env} {s : State} {m : MethodId} {args : Array Value} {below : List Frame} {meth : Method} {c : Code} {P : Int → HP → Prop} (hc : VC G p (rmD 12 0) s m args meth c RX2 cX2_bytesAhead 9 12) (hr : meth.sig.returnType = some .int) {o : Int} {a1 : Int} {a2 : Int} {l3 : Int} {l4 : Int} {l5 : Int} {l6 : Int} {l8 : Int} {h : HP} {K40 : Int → Int → Int → HP → Prop} (hK40 : ∀ (x3 : Int) (x4 : Int) (x6 : Int) (h : HP), K40 x3 x4 x6 h → V G p l e (rmD 12 0) s m args below meth c (MQ below (QI G P) args s 0 0 (va_Aof G)) 9 40 [(12, o), (0, a1), (0, a2), (0, x3), (0, x4), (0, l5), (0, x6), (1, 0), (1, 0)] [] h 0) (hw : wX2_bytesAhead_130 o a1 a2 l3 l4 l5 l6 l8 K40 h) : V G p l e (rmD 12 0) s m args below meth c (MQ below (QI G P) args s 0 0 (va_Aof G)) 9 130 [(12, o), (0, a1), (0, a2), (0, l3), (0, l4), (0, l5), (0, l6), (1, 0), (0, l8)] [] h 0 := by
  refine V.iload hc dX2_bytesAhead_130 rfl ?_
  refine V.aload_n (t := 2) hc dX2_bytesAhead_132 rfl rfl ?_
  refine V.gR hc gR_X2_23 (i' := 12) rfl dX2_bytesAhead_133 ?_
  refine V.gR hc gR_X2_36 (i' := 12) rfl dX2_bytesAhead_136 ?_
  refine V.iload_n hc dX2_bytesAhead_139 rfl rfl ?_
  obtain ⟨g13, hw⟩ := hw
  refine V.ald hc ak_24 g13 dX2_bytesAhead_140 ?_
  refine V.iload hc dX2_bytesAhead_141 rfl ?_
  refine V.isub hc dX2_bytesAhead_143 ?_
  refine V.iadd hc dX2_bytesAhead_144 ?_
  refine V.istore hc dX2_bytesAhead_145 rfl (lo' := [(12, o), (0, a1), (0, a2), (0, l3), (0, l4 + ((h 24 12 a2) - l8)), (0, l5), (0, l6), (1, 0), (0, l8)]) rfl ?_
  refine V.iinc hc dX2_bytesAhead_147 rfl rfl (lo' := [(12, o), (0, a1), (0, a2), (0, l3), (0, l4 + ((h 24 12 a2) - l8)), (0, l5), (0, l6 + 1), (1, 0), (0, l8)]) rfl ?_
  refine V.goto hc (tgt := 40) dX2_bytesAhead_150 (by decide) ?_
  refine V.drop (lo' := [(12, o), (0, a1), (0, a2), (0, l3), (0, l4 + ((h 24 12 a2) - l8)), (0, l5), (0, l6 + 1), (1, 0), (1, 0)]) ⟨Or.inr rfl, Or.inr rfl, Or.inr rfl, Or.inr rfl, Or.inr rfl, Or.inr rfl, Or.inr rfl, Or.inr rfl, Or.inl rfl, trivial⟩ ?_
  exact hK40 _ _ _ _ hw
theorem tX2_bytesAhead_40 {G : GG} {p : Program} {l : Launch} {e : Jvm.Env} {s : State} {m : MethodId} {args : Array Value} {below : List Frame} {meth : Method} {c : Code} {P : Int → HP → Prop} (hc : VC G p (rmD 12 0) s m args meth c RX2 cX2_bytesAhead 9 12) (hr : meth.sig.returnType = some .int) {o : Int} {a1 : Int} {a2 : Int} {l5 : Int} {K153 : Int → HP → Prop} {K127 : Int → HP → Prop} (hK153 : ∀ (x4 : Int) (h : HP), K153 x4 h → V G p l e (rmD 12 0) s m args below meth c (MQ below (QI G P) args s 0 0 (va_Aof G)) 9 153 [(1, 0), (1, 0), (1, 0), (1, 0), (0, x4), (1, 0), (1, 0), (1, 0), (1, 0)] [] h 0) (hK127 : ∀ (x4 : Int) (h : HP), K127 x4 h → V G p l e (rmD 12 0) s m args below meth c (MQ below (QI G P) args s 0 0 (va_Aof G)) 9 127 [(1, 0), (1, 0), (1, 0), (1, 0), (0, x4), (1, 0), (1, 0), (1, 0), (1, 0)] [] h 0) : ∀ (f : Nat) (l3 : Int) (l4 : Int) (l6 : Int) (h : HP), wX2_bytesAhead_40 o a1 a2 l5 K153 K127 f l3 l4 l6 h → V G p l e (rmD 12 0) s m args below meth c (MQ below (QI G P) args s 0 0 (va_Aof G)) 9 40 [(12, o), (0, a1), (0, a2), (0, l3), (0, l4), (0, l5), (0, l6), (1, 0), (1, 0)] [] h 0 := by
  intro f
  induction f with
  | zero =>
    intro l3 l4 l6 h hw
    exact hw.elim
  | succ f ih =>
    intro l3 l4 l6 h hw
    refine V.iload hc dX2_bytesAhead_40 rfl ?_
    refine V.sipush hc dX2_bytesAhead_42 (by decide) ?_
    obtain ⟨g3, hw⟩ := hw
    refine V.icmp_ge hc (tgt := 153) dX2_bytesAhead_45 (by decide) g3 (by omega) (fun c4 => ?_) (fun c4 => ?_)
    · replace hw := hw.1 c4
      refine V.drop (lo' := [(1, 0), (1, 0), (1, 0), (1, 0), (0, l4), (1, 0), (1, 0), (1, 0), (1, 0)]) ⟨Or.inl rfl, Or.inl rfl, Or.inl rfl, Or.inl rfl, Or.inr rfl, Or.inl rfl, Or.inl rfl, Or.inr rfl, Or.inr rfl, trivial⟩ ?_
      exact hK153 _ _ hw
    · replace hw := hw.2 c4
      refine V.aload_n (t := 2) hc dX2_bytesAhead_48 rfl rfl ?_
      refine V.gR hc gR_X2_23 (i' := 12) rfl dX2_bytesAhead_49 ?_
      refine V.gI hc gI_X2_56 rfl dX2_bytesAhead_52 ?_
      refine V.iload hc dX2_bytesAhead_55 rfl ?_
      obtain ⟨g5, hw⟩ := hw
      obtain ⟨g6, hw⟩ := hw
      refine V.icmp_ge hc (tgt := 153) dX2_bytesAhead_57 (by decide) g5 g6 (fun c7 => ?_) (fun c7 => ?_)
      · replace hw := hw.1 c7
        refine V.drop (lo' := [(1, 0), (1, 0), (1, 0), (1, 0), (0, l4), (1, 0), (1, 0), (1, 0), (1, 0)]) ⟨Or.inl rfl, Or.inl rfl, Or.inl rfl, Or.inl rfl, Or.inr rfl, Or.inl rfl, Or.inl rfl, Or.inr rfl, Or.inr rfl, trivial⟩ ?_
        exact hK153 _ _ hw
      · replace hw := hw.2 c7
        refine V.aload_n (t := 2) hc dX2_bytesAhead_60 rfl rfl ?_
        refine V.gR hc gR_X2_23 (i' := 12) rfl dX2_bytesAhead_61 ?_
        refine V.gI hc gI_X2_66 rfl dX2_bytesAhead_64 ?_
        refine V.istore hc dX2_bytesAhead_67 rfl (lo' := [(12, o), (0, a1), (0, a2), (0, l3), (0, l4), (0, l5), (0, l6), (0, h 6 12 3), (1, 0)]) rfl ?_
        refine V.aload_n (t := 2) hc dX2_bytesAhead_69 rfl rfl ?_
        refine V.gR hc gR_X2_23 (i' := 12) rfl dX2_bytesAhead_70 ?_
        refine V.gR hc gR_X2_36 (i' := 12) rfl dX2_bytesAhead_73 ?_
        refine V.iload_n hc dX2_bytesAhead_76 rfl rfl ?_
        obtain ⟨g8, hw⟩ := hw
        refine V.ald hc ak_24 g8 dX2_bytesAhead_77 ?_
        refine V.istore hc dX2_bytesAhead_78 rfl (lo' := [(12, o), (0, a1), (0, a2), (0, l3), (0, l4), (0, l5), (0, l6), (0, h 6 12 3), (0, h 24 12 a2)]) rfl ?_
        refine V.aload_n (t := 2) hc dX2_bytesAhead_80 rfl rfl ?_
        refine V.gR hc gR_X2_23 (i' := 12) rfl dX2_bytesAhead_81 ?_
        refine V.iload hc dX2_bytesAhead_84 rfl ?_
        refine V.aload_n (t := 2) hc dX2_bytesAhead_86 rfl rfl ?_
        refine V.gR hc gR_X2_23 (i' := 12) rfl dX2_bytesAhead_87 ?_
        refine V.gI hc gI_X2_56 rfl dX2_bytesAhead_90 ?_
        refine V.isub hc dX2_bytesAhead_93 ?_
        refine V.callVV hc (qX6_advance G l _ _ _ _ hw) mo_X6_advance ml_X2_63 (by rfl) rfl rfl (as := [(0, l5 - (h 6 12 1))]) rfl rfl rfl rfl rfl ⟨Nat.zero_le _, Nat.zero_le _⟩ dX2_bytesAhead_94 (fun h9 hw => ?_)
        refine V.aload_n (t := 2) hc dX2_bytesAhead_97 rfl rfl ?_
        refine V.gR hc gR_X2_23 (i' := 12) rfl dX2_bytesAhead_98 ?_
        refine V.gI hc gI_X2_66 rfl dX2_bytesAhead_101 ?_
        refine V.iload hc dX2_bytesAhead_104 rfl ?_
        obtain ⟨g10, hw⟩ := hw
        obtain ⟨g11, hw⟩ := hw
        refine V.icmp_le hc (tgt := 130) dX2_bytesAhead_106 (by decide) g10 g11 (fun c12 => ?_) (fun c12 => ?_)
        · replace hw := hw.1 c12
          refine V.drop (lo' := [(12, o), (0, a1), (0, a2), (0, l3), (0, l4), (0, l5), (0, l6), (1, 0), (0, h 24 12 a2)]) ⟨Or.inr rfl, Or.inr rfl, Or.inr rfl, Or.inr rfl, Or.inr rfl, Or.inr rfl, Or.inr rfl, Or.inl rfl, Or.inr rfl, trivial⟩ ?_
          exact tX2_bytesAhead_130 hc hr (fun y3 y4 y6 hy hw => by exact ih _ _ _ _ hw) hw
        · replace hw := hw.2 c12
          refine V.aload_n (t := 2) hc dX2_bytesAhead_109 rfl rfl ?_
          refine V.gR hc gR_X2_23 (i' := 12) rfl dX2_bytesAhead_110 ?_
          refine V.gI hc gI_X2_69 rfl dX2_bytesAhead_113 ?_
          refine V.iload_n hc dX2_bytesAhead_116 rfl rfl ?_
          obtain ⟨g14, hw⟩ := hw
          obtain ⟨g15, hw⟩ := hw
          refine V.icmp_ne hc (tgt := 130) dX2_bytesAhead_117 (by decide) g14 g15 (fun c16 => ?_) (fun c16 => ?_)
          · replace hw := hw.1 c16
            refine V.drop (lo' := [(12, o), (0, a1), (0, a2), (0, l3), (0, l4), (0, l5), (0, l6), (1, 0), (0, h 24 12 a2)]) ⟨Or.inr rfl, Or.inr rfl, Or.inr rfl, Or.inr rfl, Or.inr rfl, Or.inr rfl, Or.inr rfl, Or.inl rfl, Or.inr rfl, trivial⟩ ?_
            exact tX2_bytesAhead_130 hc hr (fun y3 y4 y6 hy hw => by exact ih _ _ _ _ hw) hw
          · replace hw := hw.2 c16
            refine V.iinc hc dX2_bytesAhead_120 rfl rfl (lo' := [(12, o), (0, a1), (0, a2), (0, l3 + (-1)), (0, l4), (0, l5), (0, l6), (0, h 6 12 3), (0, h 24 12 a2)]) rfl ?_
            refine V.iload_n hc dX2_bytesAhead_123 rfl rfl ?_
            obtain ⟨g17, hw⟩ := hw
            refine V.if_ne hc (tgt := 130) dX2_bytesAhead_124 (by decide) g17 (fun c18 => ?_) (fun c18 => ?_)
            · replace hw := hw.1 c18
              refine V.drop (lo' := [(12, o), (0, a1), (0, a2), (0, l3 + (-1)), (0, l4), (0, l5), (0, l6), (1, 0), (0, h 24 12 a2)]) ⟨Or.inr rfl, Or.inr rfl, Or.inr rfl, Or.inr rfl, Or.inr rfl, Or.inr rfl, Or.inr rfl, Or.inl rfl, Or.inr rfl, trivial⟩ ?_
              exact tX2_bytesAhead_130 hc hr (fun y3 y4 y6 hy hw => by exact ih _ _ _ _ hw) hw
            · replace hw := hw.2 c18
              refine V.drop (lo' := [(1, 0), (1, 0), (1, 0), (1, 0), (0, l4), (1, 0), (1, 0), (1, 0), (1, 0)]) ⟨Or.inl rfl, Or.inl rfl, Or.inl rfl, Or.inl rfl, Or.inr rfl, Or.inl rfl, Or.inl rfl, Or.inl rfl, Or.inl rfl, trivial⟩ ?_
              exact hK127 _ _ hw
theorem qX2_bytesAhead (G : GG) (l : Launch) (o : Int) (a1 : Int) (a2 : Int) (h : HP) (P : Int → HP → Prop) (hw : wX2_bytesAhead o a1 a2 h P) : CnI l G yX2_bytesAhead cX2_bytesAhead 9 (some .int) 12 [(12, o), (0, a1), (0, a2)] h P := by
  refine CnI.of (lo := [(12, o), (0, a1), (0, a2), (1, 0), (1, 0), (1, 0), (1, 0), (1, 0), (1, 0)]) (by decide) rfl rfl rfl ?_
  intro p e s m args below meth c hc hr
  have hc : VC G p (rmD 12 0) s m args meth c RX2 cX2_bytesAhead 9 12 := hc
  refine V.aload_n (t := 2) hc dX2_bytesAhead_0 rfl rfl ?_
  refine V.gR hc gR_X2_23 (i' := 12) rfl dX2_bytesAhead_1 ?_
  refine V.aload_n (t := 2) hc dX2_bytesAhead_4 rfl rfl ?_
  refine V.gR hc gR_X2_19 (i' := 10) rfl dX2_bytesAhead_5 ?_
  refine V.callVV hc (qX6_copyFrom G l _ _ _ _ hw) mo_X6_copyFrom ml_X2_26 (by rfl) rfl rfl (as := [(16, 10)]) rfl rfl rfl rfl rfl ⟨Nat.zero_le _, Nat.zero_le _⟩ dX2_bytesAhead_8 (fun h1 hw => ?_)
  refine V.aload_n (t := 2) hc dX2_bytesAhead_11 rfl rfl ?_
  refine V.gR hc gR_X2_19 (i' := 10) rfl dX2_bytesAhead_12 ?_
  refine V.gR hc gR_X2_76 (i' := 10) rfl dX2_bytesAhead_15 ?_
  refine V.iload_n hc dX2_bytesAhead_18 rfl rfl ?_
  obtain ⟨g2, hw⟩ := hw
  refine V.ald hc ak_29 g2 dX2_bytesAhead_19 ?_
  refine V.istore_n hc dX2_bytesAhead_20 rfl rfl (lo' := [(12, o), (0, a1), (0, a2), (0, h1 29 10 a1), (1, 0), (1, 0), (1, 0), (1, 0), (1, 0)]) rfl ?_
  refine V.iconst hc dX2_bytesAhead_21 ?_
  refine V.istore hc dX2_bytesAhead_22 rfl (lo' := [(12, o), (0, a1), (0, a2), (0, h1 29 10 a1), (0, 0), (1, 0), (1, 0), (1, 0), (1, 0)]) rfl ?_
  refine V.aload_n (t := 2) hc dX2_bytesAhead_24 rfl rfl ?_
  refine V.gR hc gR_X2_19 (i' := 10) rfl dX2_bytesAhead_25 ?_
  refine V.gI hc gI_X2_56 rfl dX2_bytesAhead_28 ?_
  refine V.sipush hc dX2_bytesAhead_31 (by decide) ?_
  refine V.iadd hc dX2_bytesAhead_34 ?_
  refine V.istore hc dX2_bytesAhead_35 rfl (lo' := [(12, o), (0, a1), (0, a2), (0, h1 29 10 a1), (0, 0), (0, (h1 6 10 1) + 400), (1, 0), (1, 0), (1, 0)]) rfl ?_
  refine V.iconst hc dX2_bytesAhead_37 ?_
  refine V.istore hc dX2_bytesAhead_38 rfl (lo' := [(12, o), (0, a1), (0, a2), (0, h1 29 10 a1), (0, 0), (0, (h1 6 10 1) + 400), (0, 0), (1, 0), (1, 0)]) rfl ?_
  obtain ⟨f19, hw⟩ := hw
  refine tX2_bytesAhead_40 hc hr ?_ ?_ f19 _ _ _ _ hw
  · intro l20 h21 hw
    refine V.iload hc dX2_bytesAhead_153 rfl ?_
    exact V.iret hc hr dX2_bytesAhead_155 hw
  · intro l22 h23 hw
    refine V.iload hc dX2_bytesAhead_127 rfl ?_
    exact V.iret hc hr dX2_bytesAhead_129 hw
