theorem tX6_allLost_4 {G : GG} {p : Program} {l : Launch} {e : Jvm.Env} {s : State} {m : MethodId} {args : Array Value} {below : List Frame} {meth : Method} {c : Code} {P : Int → HP → Prop} (hc : VC G p (rmD 1 0) s m args meth c RX6 cX6_allLost 3 1) (hr : meth.sig.returnType = some .int) {o : Int} {h : HP} {K30 : Int → Prop} (hK30 : ∀ (x1 : Int), K30 x1 → V G p l e (rmD 1 0) s m args below meth c (MQ below (QI G P) args s 0 0 (va_Aof G)) 3 30 [(1, 0), (0, x1), (1, 0)] [] h 0) : ∀ (f : Nat) (l1 : Int) (l2 : Int), wX6_allLost_4 o h K30 f l1 l2 → V G p l e (rmD 1 0) s m args below meth c (MQ below (QI G P) args s 0 0 (va_Aof G)) 3 4 [(16, o), (0, l1), (0, l2)] [] h 0 := by
  intro f
  induction f with
  | zero =>
    intro l1 l2 hw
    exact hw.elim
  | succ f ih =>
    intro l1 l2 hw
    refine V.iload_n hc dX6_allLost_4 rfl rfl ?_
    refine V.aload_n (t := 6) hc dX6_allLost_5 rfl rfl ?_
    refine V.gR hc gR_X6_68 (i' := 1) rfl dX6_allLost_6 ?_
    refine V.gI hc gI_X6_96 rfl dX6_allLost_9 ?_
    obtain ⟨g1, hw⟩ := hw
    obtain ⟨g2, hw⟩ := hw
    refine V.icmp_ge hc (tgt := 30) dX6_allLost_12 (by decide) g1 g2 (fun c3 => ?_) (fun c3 => ?_)
    · replace hw := hw.1 c3
      refine V.drop (lo' := [(1, 0), (0, l1), (1, 0)]) ⟨Or.inl rfl, Or.inr rfl, Or.inl rfl, trivial⟩ ?_
      exact hK30 _ hw
    · replace hw := hw.2 c3
      refine V.iload_n hc dX6_allLost_15 rfl rfl ?_
      refine V.aload_n (t := 6) hc dX6_allLost_16 rfl rfl ?_
      refine V.gR hc gR_X6_43 (i' := o) rfl dX6_allLost_17 ?_
      refine V.iload_n hc dX6_allLost_20 rfl rfl ?_
      obtain ⟨g4, hw⟩ := hw
      refine V.ald hc ak_28 g4 dX6_allLost_21 ?_
      refine V.iadd hc dX6_allLost_22 ?_
      refine V.istore_n hc dX6_allLost_23 rfl rfl (lo' := [(16, o), (0, l1 + (h 28 o l2)), (0, l2)]) rfl ?_
      refine V.iinc hc dX6_allLost_24 rfl rfl (lo' := [(16, o), (0, l1 + (h 28 o l2)), (0, l2 + 1)]) rfl ?_
      refine V.goto hc (tgt := 4) dX6_allLost_27 (by decide) ?_
      exact ih _ _ hw
theorem qX6_allLost (G : GG) (l : Launch) (o : Int) (h : HP) (P : Int → HP → Prop) (hw : wX6_allLost o h P) : CnI l G yX6_allLost cX6_allLost 3 (some .int) 1 [(16, o)] h P := by
  refine CnI.of (lo := [(16, o), (1, 0), (1, 0)]) (by decide) rfl rfl rfl ?_
  intro p e s m args below meth c hc hr
  have hc : VC G p (rmD 1 0) s m args meth c RX6 cX6_allLost 3 1 := hc
  refine V.iconst hc dX6_allLost_0 ?_
  refine V.istore_n hc dX6_allLost_1 rfl rfl (lo' := [(16, o), (0, 0), (1, 0)]) rfl ?_
  refine V.iconst hc dX6_allLost_2 ?_
  refine V.istore_n hc dX6_allLost_3 rfl rfl (lo' := [(16, o), (0, 0), (0, 0)]) rfl ?_
  obtain ⟨f5, hw⟩ := hw
  refine tX6_allLost_4 hc hr ?_ f5 _ _ hw
  · intro l6 hw
    refine V.iload_n hc dX6_allLost_30 rfl rfl ?_
    exact V.iret hc hr dX6_allLost_31 hw
theorem tX0_liveThrough_22 {G : GG} {p : Program} {l : Launch} {e : Jvm.Env} {s : State} {m : MethodId} {args : Array Value} {below : List Frame} {meth : Method} {c : Code} {P : Int → HP → Prop} (hc : VC G p (rmD 6 0) s m args meth c RX0 cX0_liveThrough 6 6) (hr : meth.sig.returnType = some .int) {o : Int} {a1 : Int} {a2 : Int} {a3 : Int} {K85 : Int → HP → Prop} (hK85 : ∀ (x4 : Int) (h : HP), K85 x4 h → V G p l e (rmD 6 0) s m args below meth c (MQ below (QI G P) args s 0 0 (va_Aof G)) 6 85 [(10, o), (1, 0), (1, 0), (0, a3), (0, x4), (1, 0)] [] h 0) : ∀ (f : Nat) (l4 : Int) (l5 : Int) (h : HP), wX0_liveThrough_22 o a1 a2 a3 K85 f l4 l5 h → V G p l e (rmD 6 0) s m args below meth c (MQ below (QI G P) args s 0 0 (va_Aof G)) 6 22 [(10, o), (1, 0), (0, a2), (0, a3), (0, l4), (0, l5)] [] h 0 := by
  intro f
  induction f with
  | zero =>
    intro l4 l5 h hw
    exact hw.elim
  | succ f ih =>
    intro l4 l5 h hw
    refine V.iload hc dX0_liveThrough_22 rfl ?_
    refine V.iload_n hc dX0_liveThrough_24 rfl rfl ?_
    obtain ⟨g3, hw⟩ := hw
    obtain ⟨g4, hw⟩ := hw
    refine V.icmp_ge hc (tgt := 85) dX0_liveThrough_25 (by decide) g3 g4 (fun c5 => ?_) (fun c5 => ?_)
    · replace hw := hw.1 c5
      refine V.drop (lo' := [(10, o), (1, 0), (1, 0), (0, a3), (0, l4), (1, 0)]) ⟨Or.inr rfl, Or.inr rfl, Or.inl rfl, Or.inr rfl, Or.inr rfl, Or.inl rfl, trivial⟩ ?_
      exact hK85 _ _ hw
    · replace hw := hw.2 c5
      refine V.aload_n (t := 0) hc dX0_liveThrough_28 rfl rfl ?_
      refine V.aload_n (t := 0) hc dX0_liveThrough_29 rfl rfl ?_
      refine V.bipush hc dX0_liveThrough_30 (by decide) ?_
      refine V.callVI hc (qX0_draw G l _ _ _ _ hw) mo_X0_draw ml_X0_56 (by rfl) rfl rfl (as := [(0, 6)]) rfl rfl rfl rfl rfl ⟨Nat.zero_le _, Nat.zero_le _⟩ dX0_liveThrough_32 (fun x7 h6 hw => ?_)
      refine V.callVV hc (qX0_happen G l _ _ _ _ hw) mo_X0_happen ml_X0_60 (by rfl) rfl rfl (as := [(0, x7)]) rfl rfl rfl rfl rfl ⟨Nat.zero_le _, Nat.zero_le _⟩ dX0_liveThrough_35 (fun h8 hw => ?_)
      refine V.aload_n (t := 0) hc dX0_liveThrough_38 rfl rfl ?_
      refine V.gR hc gR_X0_23 (i' := 12) rfl dX0_liveThrough_39 ?_
      refine V.bipush hc dX0_liveThrough_42 (by decide) ?_
      refine V.callVV hc (qX6_pass G l _ _ _ _ hw) mo_X6_pass ml_X0_48 (by rfl) rfl rfl (as := [(0, 10)]) rfl rfl rfl rfl rfl ⟨Nat.zero_le _, Nat.zero_le _⟩ dX0_liveThrough_44 (fun h9 hw => ?_)
      refine V.aload_n (t := 0) hc dX0_liveThrough_47 rfl rfl ?_
      refine V.gR hc gR_X0_23 (i' := 12) rfl dX0_liveThrough_48 ?_
      refine V.gR hc gR_X0_52 (i' := 12) rfl dX0_liveThrough_51 ?_
      refine V.bipush hc dX0_liveThrough_54 (by decide) ?_
      refine V.ald hc ak_29 (by omega) dX0_liveThrough_56 ?_
      refine V.iload hc dX0_liveThrough_57 rfl ?_
      obtain ⟨q13, hw⟩ := hw
      have kJ14 : ∀ t12 : Int, ((h9 29 12 12 ≤ l4 → t12 = l4) ∧ (¬ h9 29 12 12 ≤ l4 → t12 = h9 29 12 12)) → V G p l e (rmD 6 0) s m args below meth c (MQ below (QI G P) args s 0 0 (va_Aof G)) 6 77 [(10, o), (1, 0), (0, a2), (0, a3), (1, 0), (0, l5)] [(0, t12)] h9 0 := by
        intro t12 he
        replace hw := hw t12 he
        clear he
        refine V.istore hc dX0_liveThrough_77 rfl (lo' := [(10, o), (1, 0), (0, a2), (0, a3), (0, t12), (0, l5)]) rfl ?_
        refine V.iinc hc dX0_liveThrough_79 rfl rfl (lo' := [(10, o), (1, 0), (0, a2), (0, a3), (0, t12), (0, l5 + 1)]) rfl ?_
        refine V.goto hc (tgt := 22) dX0_liveThrough_82 (by decide) ?_
        exact ih _ _ _ hw
      obtain ⟨g10, g11⟩ := q13
      refine V.icmp_le hc (tgt := 75) dX0_liveThrough_59 (by decide) g10 g11 (fun c15 => ?_) (fun c15 => ?_)
      · refine V.iload hc dX0_liveThrough_75 rfl ?_
        refine V.drop (lo' := [(10, o), (1, 0), (0, a2), (0, a3), (1, 0), (0, l5)]) ⟨Or.inr rfl, Or.inr rfl, Or.inr rfl, Or.inr rfl, Or.inl rfl, Or.inr rfl, trivial⟩ ?_
        exact kJ14 _ ⟨fun _ => rfl, (fun q => absurd c15 q)⟩
      · refine V.aload_n (t := 0) hc dX0_liveThrough_62 rfl rfl ?_
        refine V.gR hc gR_X0_23 (i' := 12) rfl dX0_liveThrough_63 ?_
        refine V.gR hc gR_X0_52 (i' := 12) rfl dX0_liveThrough_66 ?_
        refine V.bipush hc dX0_liveThrough_69 (by decide) ?_
        refine V.ald hc ak_29 (by omega) dX0_liveThrough_71 ?_
        refine V.goto hc (tgt := 77) dX0_liveThrough_72 (by decide) ?_
        refine V.drop (lo' := [(10, o), (1, 0), (0, a2), (0, a3), (1, 0), (0, l5)]) ⟨Or.inr rfl, Or.inr rfl, Or.inr rfl, Or.inr rfl, Or.inl rfl, Or.inr rfl, trivial⟩ ?_
        exact kJ14 _ ⟨(fun q => absurd q c15), fun _ => rfl⟩
theorem qX0_liveThrough (G : GG) (l : Launch) (o : Int) (a1 : Int) (a2 : Int) (a3 : Int) (h : HP) (P : Int → HP → Prop) (hw : wX0_liveThrough o a1 a2 a3 h P) : CnI l G yX0_liveThrough cX0_liveThrough 6 (some .int) 6 [(10, o), (0, a1), (0, a2), (0, a3)] h P := by
  refine CnI.of (lo := [(10, o), (0, a1), (0, a2), (0, a3), (1, 0), (1, 0)]) (by decide) rfl rfl rfl ?_
  intro p e s m args below meth c hc hr
  have hc : VC G p (rmD 6 0) s m args meth c RX0 cX0_liveThrough 6 6 := hc
  refine V.aload_n (t := 0) hc dX0_liveThrough_0 rfl rfl ?_
  refine V.iload_n hc dX0_liveThrough_1 rfl rfl ?_
  refine V.pI hc pI_X0_9 rfl dX0_liveThrough_2 (fun h1 e => ?_)
  replace hw := hw h1 e
  clear e
  refine V.aload_n (t := 0) hc dX0_liveThrough_5 rfl rfl ?_
  refine V.gR hc gR_X0_23 (i' := 12) rfl dX0_liveThrough_6 ?_
  refine V.aload_n (t := 0) hc dX0_liveThrough_9 rfl rfl ?_
  refine V.gR hc gR_X0_19 (i' := 10) rfl dX0_liveThrough_10 ?_
  refine V.callVV hc (qX6_copyFrom G l _ _ _ _ hw) mo_X6_copyFrom ml_X0_30 (by rfl) rfl rfl (as := [(16, 10)]) rfl rfl rfl rfl rfl ⟨Nat.zero_le _, Nat.zero_le _⟩ dX0_liveThrough_13 (fun h2 hw => ?_)
  refine V.iconst hc dX0_liveThrough_16 ?_
  refine V.istore hc dX0_liveThrough_17 rfl (lo' := [(10, o), (0, a1), (0, a2), (0, a3), (0, 0), (1, 0)]) rfl ?_
  refine V.iconst hc dX0_liveThrough_19 ?_
  refine V.istore hc dX0_liveThrough_20 rfl (lo' := [(10, o), (0, a1), (0, a2), (0, a3), (0, 0), (0, 0)]) rfl ?_
  obtain ⟨f16, hw⟩ := hw
  refine V.drop (lo' := [(10, o), (1, 0), (0, a2), (0, a3), (0, 0), (0, 0)]) ⟨Or.inr rfl, Or.inl rfl, Or.inr rfl, Or.inr rfl, Or.inr rfl, Or.inr rfl, trivial⟩ ?_
  refine tX0_liveThrough_22 hc hr ?_ f16 _ _ _ hw
  · intro l17 h18 hw
    refine V.iload_n hc dX0_liveThrough_85 rfl rfl ?_
    obtain ⟨g19, hw⟩ := hw
    by_cases c20 : a3 = 0
    · replace hw := hw.1 c20
      refine V.lsw hc (off := 26) (tgt := 112) g19 dX0_liveThrough_86 (by decide) (by rw [c20] <;> first | rfl | decide) (by decide) ?_
      refine V.aload_n (t := 0) hc dX0_liveThrough_112 rfl rfl ?_
      refine V.gR hc gR_X0_23 (i' := 12) rfl dX0_liveThrough_113 ?_
      refine V.callVI hc (qX6_allSent G l _ _ _ hw) mo_X6_allSent ml_X0_63 (by rfl) rfl rfl (as := []) rfl rfl rfl rfl rfl ⟨Nat.zero_le _, Nat.zero_le _⟩ dX0_liveThrough_116 (fun x22 h21 hw => ?_)
      refine V.aload_n (t := 0) hc dX0_liveThrough_119 rfl rfl ?_
      refine V.gR hc gR_X0_19 (i' := 10) rfl dX0_liveThrough_120 ?_
      refine V.callVI hc (qX6_allSent G l _ _ _ hw) mo_X6_allSent ml_X0_63 (by rfl) rfl rfl (as := []) rfl rfl rfl rfl rfl ⟨Nat.zero_le _, Nat.zero_le _⟩ dX0_liveThrough_123 (fun x24 h23 hw => ?_)
      refine V.isub hc dX0_liveThrough_126 ?_
      exact V.iret hc hr dX0_liveThrough_127 hw
    replace hw := hw.2 c20
    by_cases c25 : a3 = 1
    · replace hw := hw.1 c25
      refine V.lsw hc (off := 42) (tgt := 128) g19 dX0_liveThrough_86 (by decide) (by rw [c25] <;> first | rfl | decide) (by decide) ?_
      refine V.aload_n (t := 0) hc dX0_liveThrough_128 rfl rfl ?_
      refine V.gR hc gR_X0_23 (i' := 12) rfl dX0_liveThrough_129 ?_
      refine V.callVI hc (qX6_allLost G l _ _ _ hw) mo_X6_allLost ml_X0_67 (by rfl) rfl rfl (as := []) rfl rfl rfl rfl rfl ⟨Nat.zero_le _, Nat.zero_le _⟩ dX0_liveThrough_132 (fun x27 h26 hw => ?_)
      refine V.aload_n (t := 0) hc dX0_liveThrough_135 rfl rfl ?_
      refine V.gR hc gR_X0_19 (i' := 10) rfl dX0_liveThrough_136 ?_
      refine V.callVI hc (qX6_allLost G l _ _ _ hw) mo_X6_allLost ml_X0_67 (by rfl) rfl rfl (as := []) rfl rfl rfl rfl rfl ⟨Nat.zero_le _, Nat.zero_le _⟩ dX0_liveThrough_139 (fun x29 h28 hw => ?_)
      refine V.isub hc dX0_liveThrough_142 ?_
      exact V.iret hc hr dX0_liveThrough_143 hw
    replace hw := hw.2 c25
    refine V.lsw hc (off := 58) (tgt := 144) g19 dX0_liveThrough_86 (by decide) (by simp only [Op.lookupswitch.offset_cons]; rw [if_neg (fun e => c20 e.symm), if_neg (fun e => c25 e.symm)] <;> rfl) (by decide) ?_
    refine V.iload hc dX0_liveThrough_144 rfl ?_
    exact V.iret hc hr dX0_liveThrough_146 hw
theorem qX1_drop (G : GG) (l : Launch) (o : Int) (a1 : Int) (h : HP) (P : HP → Prop) (hw : wX1_drop o a1 h P) : CnV l G yX1_drop cX1_drop 2 1 [(11, o), (0, a1)] h P := by
  refine CnV.of (lo := [(11, o), (0, a1)]) (by decide) rfl rfl rfl ?_
  intro p e s m args below meth c hc hr
  have hc : VC G p (rmD 1 0) s m args meth c RX1 cX1_drop 2 1 := hc
  refine V.aload_n (t := 1) hc dX1_drop_0 rfl rfl ?_
  refine V.gR hc gR_X1_18 (i' := o) rfl dX1_drop_1 ?_
  refine V.iload_n hc dX1_drop_4 rfl rfl ?_
  refine V.iconst hc dX1_drop_5 ?_
  obtain ⟨g2, hw⟩ := hw
  refine V.ast hc ak_15 g2 dX1_drop_6 (fun h1 e => ?_)
  replace hw := hw h1 e
  clear e
  refine V.aload_n (t := 1) hc dX1_drop_7 rfl rfl ?_
  refine V.gR hc gR_X1_24 (i' := o) rfl dX1_drop_8 ?_
  refine V.iload_n hc dX1_drop_11 rfl rfl ?_
  refine V.iconst hc dX1_drop_12 ?_
  obtain ⟨g4, hw⟩ := hw
  refine V.ast hc ak_17 g4 dX1_drop_13 (fun h3 e => ?_)
  replace hw := hw h3 e
  clear e
  exact V.vret hc hr dX1_drop_14 hw
theorem tX1_clear_2 {G : GG} {p : Program} {l : Launch} {e : Jvm.Env} {s : State} {m : MethodId} {args : Array Value} {below : List Frame} {meth : Method} {c : Code} {P : HP → Prop} (hc : VC G p (rmD 2 0) s m args meth c RX1 cX1_clear 2 2) (hr : meth.sig.returnType = none) {o : Int} {K19 : HP → Prop} (hK19 : ∀  (h : HP), K19  h → V G p l e (rmD 2 0) s m args below meth c (MQ below (QV G P) args s 0 0 (va_Aof G)) 2 19 [(1, 0), (1, 0)] [] h 0) : ∀ (f : Nat) (l1 : Int) (h : HP), wX1_clear_2 o K19 f l1 h → V G p l e (rmD 2 0) s m args below meth c (MQ below (QV G P) args s 0 0 (va_Aof G)) 2 2 [(11, o), (0, l1)] [] h 0 := by
  intro f
  induction f with
  | zero =>
    intro l1 h hw
    exact hw.elim
  | succ f ih =>
    intro l1 h hw
    refine V.iload_n hc dX1_clear_2 rfl rfl ?_
    refine V.bipush hc dX1_clear_3 (by decide) ?_
    obtain ⟨g1, hw⟩ := hw
    refine V.icmp_ge hc (tgt := 19) dX1_clear_5 (by decide) g1 (by omega) (fun c2 => ?_) (fun c2 => ?_)
    · replace hw := hw.1 c2
      refine V.drop (lo' := [(1, 0), (1, 0)]) ⟨Or.inl rfl, Or.inl rfl, trivial⟩ ?_
      exact hK19 _ hw
    · replace hw := hw.2 c2
      refine V.aload_n (t := 1) hc dX1_clear_8 rfl rfl ?_
      refine V.iload_n hc dX1_clear_9 rfl rfl ?_
      refine V.callVV hc (qX1_drop G l _ _ _ _ hw) mo_X1_drop ml_X1_33 (by rfl) rfl rfl (as := [(0, l1)]) rfl rfl rfl rfl rfl ⟨Nat.zero_le _, Nat.zero_le _⟩ dX1_clear_10 (fun h3 hw => ?_)
      refine V.iinc hc dX1_clear_13 rfl rfl (lo' := [(11, o), (0, l1 + 1)]) rfl ?_
      refine V.goto hc (tgt := 2) dX1_clear_16 (by decide) ?_
      exact ih _ _ hw
theorem qX1_clear (G : GG) (l : Launch) (o : Int) (h : HP) (P : HP → Prop) (hw : wX1_clear o h P) : CnV l G yX1_clear cX1_clear 2 2 [(11, o)] h P := by
  refine CnV.of (lo := [(11, o), (1, 0)]) (by decide) rfl rfl rfl ?_
  intro p e s m args below meth c hc hr
  have hc : VC G p (rmD 2 0) s m args meth c RX1 cX1_clear 2 2 := hc
  refine V.iconst hc dX1_clear_0 ?_
  refine V.istore_n hc dX1_clear_1 rfl rfl (lo' := [(11, o), (0, 0)]) rfl ?_
  obtain ⟨f4, hw⟩ := hw
  refine tX1_clear_2 hc hr ?_ f4 _ _ hw
  · intro h5 hw
    exact V.vret hc hr dX1_clear_19 hw
theorem tX2_chosenAt_26 {G : GG} {p : Program} {l : Launch} {e : Jvm.Env} {s : State} {m : MethodId} {args : Array Value} {below : List Frame} {meth : Method} {c : Code} {P : Int → HP → Prop} (hc : VC G p (rmD 5 0) s m args meth c RX2 cX2_chosenAt 6 5) (hr : meth.sig.returnType = some .int) {o : Int} {a1 : Int} {a2 : Int} {l3 : Int} {K151 : HP → Prop} {K89 : Int → HP → Prop} (hK151 : ∀  (h : HP), K151  h → V G p l e (rmD 5 0) s m args below meth c (MQ below (QI G P) args s 0 0 (va_Aof G)) 6 151 [(1, 0), (1, 0), (1, 0), (1, 0), (1, 0), (1, 0)] [] h 0) (hK89 : ∀ (x5 : Int) (h : HP), K89 x5 h → V G p l e (rmD 5 0) s m args below meth c (MQ below (QI G P) args s 0 0 (va_Aof G)) 6 89 [(12, o), (1, 0), (0, a2), (1, 0), (1, 0), (0, x5)] [] h 0) : ∀ (f : Nat) (l4 : Int) (h : HP), wX2_chosenAt_26 o a1 a2 l3 K151 K89 f l4 h → V G p l e (rmD 5 0) s m args below meth c (MQ below (QI G P) args s 0 0 (va_Aof G)) 6 26 [(12, o), (0, a1), (0, a2), (0, l3), (0, l4), (1, 0)] [] h 0 := by
  intro f
  induction f with
  | zero =>
    intro l4 h hw
    exact hw.elim
  | succ f ih =>
    intro l4 h hw
    refine V.iload hc dX2_chosenAt_26 rfl ?_
    refine V.sipush hc dX2_chosenAt_28 (by decide) ?_
    obtain ⟨g2, hw⟩ := hw
    refine V.icmp_ge hc (tgt := 151) dX2_chosenAt_31 (by decide) g2 (by omega) (fun c3 => ?_) (fun c3 => ?_)
    · replace hw := hw.1 c3
      refine V.drop (lo' := [(1, 0), (1, 0), (1, 0), (1, 0), (1, 0), (1, 0)]) ⟨Or.inl rfl, Or.inl rfl, Or.inl rfl, Or.inl rfl, Or.inl rfl, Or.inr rfl, trivial⟩ ?_
      exact hK151 _ hw
    · replace hw := hw.2 c3
      refine V.aload_n (t := 2) hc dX2_chosenAt_34 rfl rfl ?_
      refine V.gR hc gR_X2_23 (i' := 12) rfl dX2_chosenAt_35 ?_
      refine V.gI hc gI_X2_56 rfl dX2_chosenAt_38 ?_
      refine V.iload_n hc dX2_chosenAt_41 rfl rfl ?_
      obtain ⟨g4, hw⟩ := hw
      obtain ⟨g5, hw⟩ := hw
      refine V.icmp_ge hc (tgt := 151) dX2_chosenAt_42 (by decide) g4 g5 (fun c6 => ?_) (fun c6 => ?_)
      · replace hw := hw.1 c6
        refine V.drop (lo' := [(1, 0), (1, 0), (1, 0), (1, 0), (1, 0), (1, 0)]) ⟨Or.inl rfl, Or.inl rfl, Or.inl rfl, Or.inl rfl, Or.inl rfl, Or.inr rfl, trivial⟩ ?_
        exact hK151 _ hw
      · replace hw := hw.2 c6
        refine V.aload_n (t := 2) hc dX2_chosenAt_45 rfl rfl ?_
        refine V.gR hc gR_X2_23 (i' := 12) rfl dX2_chosenAt_46 ?_
        refine V.gI hc gI_X2_60 rfl dX2_chosenAt_49 ?_
        refine V.istore hc dX2_chosenAt_52 rfl (lo' := [(12, o), (0, a1), (0, a2), (0, l3), (0, l4), (0, h 6 12 4)]) rfl ?_
        refine V.aload_n (t := 2) hc dX2_chosenAt_54 rfl rfl ?_
        refine V.gR hc gR_X2_23 (i' := 12) rfl dX2_chosenAt_55 ?_
        refine V.iload_n hc dX2_chosenAt_58 rfl rfl ?_
        refine V.aload_n (t := 2) hc dX2_chosenAt_59 rfl rfl ?_
        refine V.gR hc gR_X2_23 (i' := 12) rfl dX2_chosenAt_60 ?_
        refine V.gI hc gI_X2_56 rfl dX2_chosenAt_63 ?_
        refine V.isub hc dX2_chosenAt_66 ?_
        refine V.callVV hc (qX6_advance G l _ _ _ _ hw) mo_X6_advance ml_X2_63 (by rfl) rfl rfl (as := [(0, l3 - (h 6 12 1))]) rfl rfl rfl rfl rfl ⟨Nat.zero_le _, Nat.zero_le _⟩ dX2_chosenAt_67 (fun h7 hw => ?_)
        refine V.aload_n (t := 2) hc dX2_chosenAt_70 rfl rfl ?_
        refine V.gR hc gR_X2_23 (i' := 12) rfl dX2_chosenAt_71 ?_
        refine V.gI hc gI_X2_66 rfl dX2_chosenAt_74 ?_
        refine V.aload_n (t := 2) hc dX2_chosenAt_77 rfl rfl ?_
        refine V.gR hc gR_X2_19 (i' := 10) rfl dX2_chosenAt_78 ?_
        refine V.gI hc gI_X2_66 rfl dX2_chosenAt_81 ?_
        refine V.isub hc dX2_chosenAt_84 ?_
        refine V.iload_n hc dX2_chosenAt_85 rfl rfl ?_
        obtain ⟨g8, hw⟩ := hw
        obtain ⟨g9, hw⟩ := hw
        refine V.icmp_ne hc (tgt := 145) dX2_chosenAt_86 (by decide) g8 g9 (fun c10 => ?_) (fun c10 => ?_)
        · replace hw := hw.1 c10
          refine V.iinc hc dX2_chosenAt_145 rfl rfl (lo' := [(12, o), (0, a1), (0, a2), (0, l3), (0, l4 + 1), (0, h 6 12 4)]) rfl ?_
          refine V.goto hc (tgt := 26) dX2_chosenAt_148 (by decide) ?_
          refine V.drop (lo' := [(12, o), (0, a1), (0, a2), (0, l3), (0, l4 + 1), (1, 0)]) ⟨Or.inr rfl, Or.inr rfl, Or.inr rfl, Or.inr rfl, Or.inr rfl, Or.inl rfl, trivial⟩ ?_
          exact ih _ _ hw
        · replace hw := hw.2 c10
          refine V.drop (lo' := [(12, o), (1, 0), (0, a2), (1, 0), (1, 0), (0, h 6 12 4)]) ⟨Or.inr rfl, Or.inl rfl, Or.inr rfl, Or.inl rfl, Or.inl rfl, Or.inr rfl, trivial⟩ ?_
          exact hK89 _ _ hw
theorem qX2_chosenAt (G : GG) (l : Launch) (o : Int) (a1 : Int) (a2 : Int) (h : HP) (P : Int → HP → Prop) (hw : wX2_chosenAt o a1 a2 h P) : CnI l G yX2_chosenAt cX2_chosenAt 6 (some .int) 5 [(12, o), (0, a1), (0, a2)] h P := by
  refine CnI.of (lo := [(12, o), (0, a1), (0, a2), (1, 0), (1, 0), (1, 0)]) (by decide) rfl rfl rfl ?_
  intro p e s m args below meth c hc hr
  have hc : VC G p (rmD 5 0) s m args meth c RX2 cX2_chosenAt 6 5 := hc
  refine V.aload_n (t := 2) hc dX2_chosenAt_0 rfl rfl ?_
  refine V.gR hc gR_X2_23 (i' := 12) rfl dX2_chosenAt_1 ?_
  refine V.aload_n (t := 2) hc dX2_chosenAt_4 rfl rfl ?_
  refine V.gR hc gR_X2_19 (i' := 10) rfl dX2_chosenAt_5 ?_
  refine V.callVV hc (qX6_copyFrom G l _ _ _ _ hw) mo_X6_copyFrom ml_X2_26 (by rfl) rfl rfl (as := [(16, 10)]) rfl rfl rfl rfl rfl ⟨Nat.zero_le _, Nat.zero_le _⟩ dX2_chosenAt_8 (fun h1 hw => ?_)
  refine V.aload_n (t := 2) hc dX2_chosenAt_11 rfl rfl ?_
  refine V.gR hc gR_X2_19 (i' := 10) rfl dX2_chosenAt_12 ?_
  refine V.gI hc gI_X2_56 rfl dX2_chosenAt_15 ?_
  refine V.sipush hc dX2_chosenAt_18 (by decide) ?_
  refine V.iadd hc dX2_chosenAt_21 ?_
  refine V.istore_n hc dX2_chosenAt_22 rfl rfl (lo' := [(12, o), (0, a1), (0, a2), (0, (h1 6 10 1) + 400), (1, 0), (1, 0)]) rfl ?_
  refine V.iconst hc dX2_chosenAt_23 ?_
  refine V.istore hc dX2_chosenAt_24 rfl (lo' := [(12, o), (0, a1), (0, a2), (0, (h1 6 10 1) + 400), (0, 0), (1, 0)]) rfl ?_
  obtain ⟨f11, hw⟩ := hw
  refine tX2_chosenAt_26 hc hr ?_ ?_ f11 _ _ hw
  · intro h12 hw
    refine V.iconst hc dX2_chosenAt_151 ?_
    exact V.iret hc hr dX2_chosenAt_152 hw
  · intro l13 h14 hw
    refine V.iload_n hc dX2_chosenAt_89 rfl rfl ?_
    obtain ⟨g15, hw⟩ := hw
    by_cases c16 : a2 = 0
    · replace hw := hw.1 c16
      refine V.lsw hc (off := 26) (tgt := 116) g15 dX2_chosenAt_90 (by decide) (by rw [c16] <;> first | rfl | decide) (by decide) ?_
      refine V.aload_n (t := 2) hc dX2_chosenAt_116 rfl rfl ?_
      refine V.gR hc gR_X2_23 (i' := 12) rfl dX2_chosenAt_117 ?_
      refine V.gI hc gI_X2_69 rfl dX2_chosenAt_120 ?_
      exact V.iret hc hr dX2_chosenAt_123 hw
    replace hw := hw.2 c16
    by_cases c17 : a2 = 1
    · replace hw := hw.1 c17
      refine V.lsw hc (off := 34) (tgt := 124) g15 dX2_chosenAt_90 (by decide) (by rw [c17] <;> first | rfl | decide) (by decide) ?_
      refine V.aload_n (t := 2) hc dX2_chosenAt_124 rfl rfl ?_
      refine V.gR hc gR_X2_23 (i' := 12) rfl dX2_chosenAt_125 ?_
      refine V.gI hc gI_X2_56 rfl dX2_chosenAt_128 ?_
      refine V.iconst hc dX2_chosenAt_131 ?_
      refine V.isub hc dX2_chosenAt_132 ?_
      exact V.iret hc hr dX2_chosenAt_133 hw
    replace hw := hw.2 c17
    refine V.lsw hc (off := 44) (tgt := 134) g15 dX2_chosenAt_90 (by decide) (by simp only [Op.lookupswitch.offset_cons]; rw [if_neg (fun e => c16 e.symm), if_neg (fun e => c17 e.symm)] <;> rfl) (by decide) ?_
    refine V.aload_n (t := 2) hc dX2_chosenAt_134 rfl rfl ?_
    refine V.gR hc gR_X2_23 (i' := 12) rfl dX2_chosenAt_135 ?_
    refine V.gI hc gI_X2_60 rfl dX2_chosenAt_138 ?_
    refine V.iload hc dX2_chosenAt_141 rfl ?_
    refine V.isub hc dX2_chosenAt_143 ?_
    exact V.iret hc hr dX2_chosenAt_144 hw
theorem qX5_size (G : GG) (l : Launch) (o : Int) (h : HP) (P : Int → HP → Prop) (hw : wX5_size o h P) : CnI l G yX5_size cX5_size 1 (some .int) 1 [(15, o)] h P := by
  refine CnI.of (lo := [(15, o)]) (by decide) rfl rfl rfl ?_
  intro p e s m args below meth c hc hr
  have hc : VC G p (rmD 1 0) s m args meth c RX5 cX5_size 1 1 := hc
  refine V.aload_n (t := 5) hc dX5_size_0 rfl rfl ?_
  refine V.gI hc gI_X5_21 rfl dX5_size_1 ?_
  exact V.iret hc hr dX5_size_4 hw
theorem qX5_clear (G : GG) (l : Launch) (o : Int) (h : HP) (P : HP → Prop) (hw : wX5_clear o h P) : CnV l G yX5_clear cX5_clear 1 1 [(15, o)] h P := by
  refine CnV.of (lo := [(15, o)]) (by decide) rfl rfl rfl ?_
  intro p e s m args below meth c hc hr
  have hc : VC G p (rmD 1 0) s m args meth c RX5 cX5_clear 1 1 := hc
  refine V.aload_n (t := 5) hc dX5_clear_0 rfl rfl ?_
  refine V.iconst hc dX5_clear_1 ?_
  refine V.pI hc pI_X5_17 rfl dX5_clear_2 (fun h1 e => ?_)
  replace hw := hw h1 e
  clear e
  refine V.aload_n (t := 5) hc dX5_clear_5 rfl rfl ?_
  refine V.iconst hc dX5_clear_6 ?_
  refine V.pI hc pI_X5_21 rfl dX5_clear_7 (fun h2 e => ?_)
  replace hw := hw h2 e
  clear e
  exact V.vret hc hr dX5_clear_10 hw
theorem qX5_keep (G : GG) (l : Launch) (o : Int) (o1 : Int) (h : HP) (P : HP → Prop) (hw : wX5_keep o o1 h P) : CnV l G yX5_keep cX5_keep 2 4 [(15, o), (16, o1)] h P := by
  refine CnV.of (lo := [(15, o), (16, o1)]) (by decide) rfl rfl rfl ?_
  intro p e s m args below meth c hc hr
  have hc : VC G p (rmD 4 0) s m args meth c RX5 cX5_keep 2 4 := hc
  refine V.aload_n (t := 5) hc dX5_keep_0 rfl rfl ?_
  refine V.gR hc gR_X5_11 (i' := o) rfl dX5_keep_1 ?_
  refine V.aload_n (t := 5) hc dX5_keep_4 rfl rfl ?_
  refine V.gI hc gI_X5_17 rfl dX5_keep_5 ?_
  refine V.aload_n (t := 5) hc dX5_keep_8 rfl rfl ?_
  refine V.gI hc gI_X5_21 rfl dX5_keep_9 ?_
  refine V.iadd hc dX5_keep_12 ?_
  refine V.bipush hc dX5_keep_13 (by decide) ?_
  obtain ⟨g1, hw⟩ := hw
  refine V.irem hc g1 (by omega) dX5_keep_15 ?_
  obtain ⟨g2, hw⟩ := hw
  refine V.aald hc g2 dX5_keep_16 ?_
  refine V.aload_n (t := 6) hc dX5_keep_17 rfl rfl ?_
  refine V.callVV hc (qX6_copyFrom G l _ _ _ _ hw) mo_X6_copyFrom ml_X5_27 (by rfl) rfl rfl (as := [(16, o1)]) rfl rfl rfl rfl rfl ⟨Nat.zero_le _, Nat.zero_le _⟩ dX5_keep_18 (fun h3 hw => ?_)
  refine V.aload_n (t := 5) hc dX5_keep_21 rfl rfl ?_
  refine V.gI hc gI_X5_21 rfl dX5_keep_22 ?_
  refine V.bipush hc dX5_keep_25 (by decide) ?_
  obtain ⟨g4, hw⟩ := hw
  refine V.icmp_ge hc (tgt := 43) dX5_keep_27 (by decide) g4 (by omega) (fun c5 => ?_) (fun c5 => ?_)
  · replace hw := hw.1 c5
    refine V.aload_n (t := 5) hc dX5_keep_43 rfl rfl ?_
    refine V.aload_n (t := 5) hc dX5_keep_44 rfl rfl ?_
    refine V.gI hc gI_X5_17 rfl dX5_keep_45 ?_
    refine V.iconst hc dX5_keep_48 ?_
    refine V.iadd hc dX5_keep_49 ?_
    refine V.bipush hc dX5_keep_50 (by decide) ?_
    obtain ⟨g6, hw⟩ := hw
    refine V.irem hc g6 (by omega) dX5_keep_52 ?_
    refine V.pI hc pI_X5_17 rfl dX5_keep_53 (fun h7 e => ?_)
    replace hw := hw h7 e
    clear e
    exact V.vret hc hr dX5_keep_56 hw
  · replace hw := hw.2 c5
    refine V.aload_n (t := 5) hc dX5_keep_30 rfl rfl ?_
    refine V.dup hc dX5_keep_31 (by simp) ?_
    refine V.gI hc gI_X5_21 rfl dX5_keep_32 ?_
    refine V.iconst hc dX5_keep_35 ?_
    refine V.iadd hc dX5_keep_36 ?_
    refine V.pI hc pI_X5_21 rfl dX5_keep_37 (fun h8 e => ?_)
    replace hw := hw h8 e
    clear e
    refine V.goto hc (tgt := 56) dX5_keep_40 (by decide) ?_
    exact V.vret hc hr dX5_keep_56 hw
theorem qX5_takeBack (G : GG) (l : Launch) (o : Int) (o1 : Int) (h : HP) (P : HP → Prop) (hw : wX5_takeBack o o1 h P) : CnV l G yX5_takeBack cX5_takeBack 2 4 [(15, o), (16, o1)] h P := by
  refine CnV.of (lo := [(15, o), (16, o1)]) (by decide) rfl rfl rfl ?_
  intro p e s m args below meth c hc hr
  have hc : VC G p (rmD 4 0) s m args meth c RX5 cX5_takeBack 2 4 := hc
  refine V.aload_n (t := 5) hc dX5_takeBack_0 rfl rfl ?_
  refine V.gI hc gI_X5_21 rfl dX5_takeBack_1 ?_
  obtain ⟨g1, hw⟩ := hw
  refine V.if_le hc (tgt := 38) dX5_takeBack_4 (by decide) g1 (fun c2 => ?_) (fun c2 => ?_)
  · replace hw := hw.1 c2
    exact V.vret hc hr dX5_takeBack_38 hw
  · replace hw := hw.2 c2
    refine V.aload_n (t := 5) hc dX5_takeBack_7 rfl rfl ?_
    refine V.dup hc dX5_takeBack_8 (by simp) ?_
    refine V.gI hc gI_X5_21 rfl dX5_takeBack_9 ?_
    refine V.iconst hc dX5_takeBack_12 ?_
    refine V.isub hc dX5_takeBack_13 ?_
    refine V.pI hc pI_X5_21 rfl dX5_takeBack_14 (fun h3 e => ?_)
    replace hw := hw h3 e
    clear e
    refine V.aload_n (t := 6) hc dX5_takeBack_17 rfl rfl ?_
    refine V.aload_n (t := 5) hc dX5_takeBack_18 rfl rfl ?_
    refine V.gR hc gR_X5_11 (i' := o) rfl dX5_takeBack_19 ?_
    refine V.aload_n (t := 5) hc dX5_takeBack_22 rfl rfl ?_
    refine V.gI hc gI_X5_17 rfl dX5_takeBack_23 ?_
    refine V.aload_n (t := 5) hc dX5_takeBack_26 rfl rfl ?_
    refine V.gI hc gI_X5_21 rfl dX5_takeBack_27 ?_
    refine V.iadd hc dX5_takeBack_30 ?_
    refine V.bipush hc dX5_takeBack_31 (by decide) ?_
    obtain ⟨g4, hw⟩ := hw
    refine V.irem hc g4 (by omega) dX5_takeBack_33 ?_
    obtain ⟨g5, hw⟩ := hw
    refine V.aald hc g5 dX5_takeBack_34 ?_
    refine V.callVV hc (qX6_copyFrom G l _ _ _ _ hw) mo_X6_copyFrom ml_X5_27 (by rfl) rfl rfl (as := [(16, (if o = 3 then 20 + (((h3 5 o 1) + (h3 5 o 2)) % 40) else 60 + (((h3 5 o 1) + (h3 5 o 2)) % 40)))]) rfl rfl rfl rfl rfl ⟨Nat.zero_le _, Nat.zero_le _⟩ dX5_takeBack_35 (fun h6 hw => ?_)
    exact V.vret hc hr dX5_takeBack_38 hw
theorem tX5_copyFrom_18 {G : GG} {p : Program} {l : Launch} {e : Jvm.Env} {s : State} {m : MethodId} {args : Array Value} {below : List Frame} {meth : Method} {c : Code} {P : HP → Prop} (hc : VC G p (rmD 4 0) s m args meth c RX5 cX5_copyFrom 4 4) (hr : meth.sig.returnType = none) {o : Int} {o1 : Int} {K57 : HP → Prop} (hK57 : ∀  (h : HP), K57  h → V G p l e (rmD 4 0) s m args below meth c (MQ below (QV G P) args s 0 0 (va_Aof G)) 4 57 [(1, 0), (1, 0), (1, 0), (1, 0)] [] h 0) : ∀ (f : Nat) (l2 : Int) (h : HP), wX5_copyFrom_18 o o1 K57 f l2 h → V G p l e (rmD 4 0) s m args below meth c (MQ below (QV G P) args s 0 0 (va_Aof G)) 4 18 [(15, o), (15, o1), (0, l2), (1, 0)] [] h 0 := by
  intro f
  induction f with
  | zero =>
    intro l2 h hw
    exact hw.elim
  | succ f ih =>
    intro l2 h hw
    refine V.iload_n hc dX5_copyFrom_18 rfl rfl ?_
    refine V.aload_n (t := 5) hc dX5_copyFrom_19 rfl rfl ?_
    refine V.gI hc gI_X5_21 rfl dX5_copyFrom_20 ?_
    obtain ⟨g3, hw⟩ := hw
    obtain ⟨g4, hw⟩ := hw
    refine V.icmp_ge hc (tgt := 57) dX5_copyFrom_23 (by decide) g3 g4 (fun c5 => ?_) (fun c5 => ?_)
    · replace hw := hw.1 c5
      refine V.drop (lo' := [(1, 0), (1, 0), (1, 0), (1, 0)]) ⟨Or.inl rfl, Or.inl rfl, Or.inl rfl, Or.inr rfl, trivial⟩ ?_
      exact hK57 _ hw
    · replace hw := hw.2 c5
      refine V.aload_n (t := 5) hc dX5_copyFrom_26 rfl rfl ?_
      refine V.gI hc gI_X5_17 rfl dX5_copyFrom_27 ?_
      refine V.iload_n hc dX5_copyFrom_30 rfl rfl ?_
      refine V.iadd hc dX5_copyFrom_31 ?_
      refine V.bipush hc dX5_copyFrom_32 (by decide) ?_
      obtain ⟨g6, hw⟩ := hw
      refine V.irem hc g6 (by omega) dX5_copyFrom_34 ?_
      refine V.istore_n hc dX5_copyFrom_35 rfl rfl (lo' := [(15, o), (15, o1), (0, l2), (0, ((h 5 o 1) + l2) % 40)]) rfl ?_
      refine V.aload_n (t := 5) hc dX5_copyFrom_36 rfl rfl ?_
      refine V.gR hc gR_X5_11 (i' := o) rfl dX5_copyFrom_37 ?_
      refine V.iload_n hc dX5_copyFrom_40 rfl rfl ?_
      obtain ⟨g7, hw⟩ := hw
      refine V.aald hc g7 dX5_copyFrom_41 ?_
      refine V.aload_n (t := 5) hc dX5_copyFrom_42 rfl rfl ?_
      refine V.gR hc gR_X5_11 (i' := o1) rfl dX5_copyFrom_43 ?_
      refine V.iload_n hc dX5_copyFrom_46 rfl rfl ?_
      obtain ⟨g8, hw⟩ := hw
      refine V.aald hc g8 dX5_copyFrom_47 ?_
      refine V.callVV hc (qX6_copyFrom G l _ _ _ _ hw) mo_X6_copyFrom ml_X5_27 (by rfl) rfl rfl (as := [(16, (if o1 = 3 then 20 + (((h 5 o 1) + l2) % 40) else 60 + (((h 5 o 1) + l2) % 40)))]) rfl rfl rfl rfl rfl ⟨Nat.zero_le _, Nat.zero_le _⟩ dX5_copyFrom_48 (fun h9 hw => ?_)
      refine V.iinc hc dX5_copyFrom_51 rfl rfl (lo' := [(15, o), (15, o1), (0, l2 + 1), (0, ((h 5 o 1) + l2) % 40)]) rfl ?_
      refine V.goto hc (tgt := 18) dX5_copyFrom_54 (by decide) ?_
      refine V.drop (lo' := [(15, o), (15, o1), (0, l2 + 1), (1, 0)]) ⟨Or.inr rfl, Or.inr rfl, Or.inr rfl, Or.inl rfl, trivial⟩ ?_
      exact ih _ _ hw
theorem qX5_copyFrom (G : GG) (l : Launch) (o : Int) (o1 : Int) (h : HP) (P : HP → Prop) (hw : wX5_copyFrom o o1 h P) : CnV l G yX5_copyFrom cX5_copyFrom 4 4 [(15, o), (15, o1)] h P := by
  refine CnV.of (lo := [(15, o), (15, o1), (1, 0), (1, 0)]) (by decide) rfl rfl rfl ?_
  intro p e s m args below meth c hc hr
  have hc : VC G p (rmD 4 0) s m args meth c RX5 cX5_copyFrom 4 4 := hc
  refine V.aload_n (t := 5) hc dX5_copyFrom_0 rfl rfl ?_
  refine V.aload_n (t := 5) hc dX5_copyFrom_1 rfl rfl ?_
  refine V.gI hc gI_X5_17 rfl dX5_copyFrom_2 ?_
  refine V.pI hc pI_X5_17 rfl dX5_copyFrom_5 (fun h1 e => ?_)
  replace hw := hw h1 e
  clear e
  refine V.aload_n (t := 5) hc dX5_copyFrom_8 rfl rfl ?_
  refine V.aload_n (t := 5) hc dX5_copyFrom_9 rfl rfl ?_
  refine V.gI hc gI_X5_21 rfl dX5_copyFrom_10 ?_
  refine V.pI hc pI_X5_21 rfl dX5_copyFrom_13 (fun h2 e => ?_)
  replace hw := hw h2 e
  clear e
  refine V.iconst hc dX5_copyFrom_16 ?_
  refine V.istore_n hc dX5_copyFrom_17 rfl rfl (lo' := [(15, o), (15, o1), (0, 0), (1, 0)]) rfl ?_
  obtain ⟨f10, hw⟩ := hw
  refine tX5_copyFrom_18 hc hr ?_ f10 _ _ hw
  · intro h11 hw
    exact V.vret hc hr dX5_copyFrom_57 hw
theorem tJ7_fill_53178_5 {G : GG} {p : Program} {l : Launch} {e : Jvm.Env} {s : State} {m : MethodId} {args : Array Value} {below : List Frame} {meth : Method} {c : Code} {P : HP → Prop} (hc : VC G p (rmD 1 0) s m args meth c RJ7 cJ7_fill_53178 4 1) (hr : meth.sig.returnType = none) {k0 : Nat} {i0 : Int} {a1 : Int} {k0_ : Nat} {i0_ : Int} {l3 : Int} {K20 : HP → Prop} (hK20 : ∀  (h : HP), K20  h → V G p l e (rmD 1 0) s m args below meth c (MQ below (QV G P) args s 0 0 (va_Aof G)) 4 20 [(1, 0), (1, 0), (1, 0), (1, 0)] [] h 0) : ∀ (f : Nat) (l2 : Int) (h : HP), wJ7_fill_53178_5 k0 i0 a1 k0_ i0_ l3 K20 f l2 h → V G p l e (rmD 1 0) s m args below meth c (MQ below (QV G P) args s 0 0 (va_Aof G)) 4 5 [(k0_ + 10, i0_), (0, a1), (0, l2), (0, l3)] [] h 0 := by
  intro f
  induction f with
  | zero =>
    intro l2 h hw
    exact hw.elim
  | succ f ih =>
    intro l2 h hw
    refine V.iload_n hc dJ7_fill_53178_5 rfl rfl ?_
    refine V.iload_n hc dJ7_fill_53178_6 rfl rfl ?_
    obtain ⟨g2, hw⟩ := hw
    obtain ⟨g3, hw⟩ := hw
    refine V.icmp_ge hc (tgt := 20) dJ7_fill_53178_7 (by decide) g2 g3 (fun c4 => ?_) (fun c4 => ?_)
    · replace hw := hw.1 c4
      refine V.drop (lo' := [(1, 0), (1, 0), (1, 0), (1, 0)]) ⟨Or.inl rfl, Or.inl rfl, Or.inl rfl, Or.inl rfl, trivial⟩ ?_
      exact hK20 _ hw
    · replace hw := hw.2 c4
      refine V.aload_n (t := k0_) hc dJ7_fill_53178_10 rfl rfl ?_
      refine V.iload_n hc dJ7_fill_53178_11 rfl rfl ?_
      refine V.iload_n hc dJ7_fill_53178_12 rfl rfl ?_
      obtain ⟨g6, hw⟩ := hw
      obtain ⟨g7, hw⟩ := hw
      refine V.ast hc ⟨g6, rfl⟩ g7 dJ7_fill_53178_13 (fun h5 e => ?_)
      replace hw := hw h5 e
      clear e
      refine V.iinc hc dJ7_fill_53178_14 rfl rfl (lo' := [(k0_ + 10, i0_), (0, a1), (0, l2 + 1), (0, l3)]) rfl ?_
      refine V.goto hc (tgt := 5) dJ7_fill_53178_17 (by decide) ?_
      exact ih _ _ hw
theorem qJ7_fill_53178 (G : GG) (l : Launch) (k0 : Nat) (i0 : Int) (a1 : Int) (h : HP) (P : HP → Prop) (hw : wJ7_fill_53178 k0 i0 a1 h P) : CnV l G yJ7_fill_53178 cJ7_fill_53178 4 1 [(k0 + 10, i0), (0, a1)] h P := by
  refine CnV.of (lo := [(k0 + 10, i0), (0, a1), (1, 0), (1, 0)]) (by decide) rfl rfl rfl ?_
  intro p e s m args below meth c hc hr
  have hc : VC G p (rmD 1 0) s m args meth c RJ7 cJ7_fill_53178 4 1 := hc
  refine V.iconst hc dJ7_fill_53178_0 ?_
  refine V.istore_n hc dJ7_fill_53178_1 rfl rfl (lo' := [(k0 + 10, i0), (0, a1), (0, 0), (1, 0)]) rfl ?_
  refine V.aload_n (t := k0) hc dJ7_fill_53178_2 rfl rfl ?_
  obtain ⟨g1, hw⟩ := hw
  refine V.aln hc ⟨g1, rfl⟩ dJ7_fill_53178_3 ?_
  refine V.istore_n hc dJ7_fill_53178_4 rfl rfl (lo' := [(k0 + 10, i0), (0, a1), (0, 0), (0, ((kLen k0 : Nat) : Int))]) rfl ?_
  obtain ⟨f8, hw⟩ := hw
  refine tJ7_fill_53178_5 hc hr ?_ f8 _ _ hw
  · intro h9 hw
    exact V.vret hc hr dJ7_fill_53178_20 hw
theorem qX6_begin (G : GG) (l : Launch) (o : Int) (h : HP) (P : HP → Prop) (hw : wX6_begin o h P) : CnV l G yX6_begin cX6_begin 1 3 [(16, o)] h P := by
  refine CnV.of (lo := [(16, o)]) (by decide) rfl rfl rfl ?_
  intro p e s m args below meth c hc hr
  have hc : VC G p (rmD 3 0) s m args meth c RX6 cX6_begin 1 3 := hc
  refine V.aload_n (t := 6) hc dX6_begin_0 rfl rfl ?_
  refine V.iconst hc dX6_begin_1 ?_
  refine V.pI hc pI_X6_9 rfl dX6_begin_2 (fun h1 e => ?_)
  replace hw := hw h1 e
  clear e
  refine V.aload_n (t := 6) hc dX6_begin_5 rfl rfl ?_
  refine V.iconst hc dX6_begin_6 ?_
  refine V.pI hc pI_X6_15 rfl dX6_begin_7 (fun h2 e => ?_)
  replace hw := hw h2 e
  clear e
  refine V.aload_n (t := 6) hc dX6_begin_10 rfl rfl ?_
  refine V.iconst hc dX6_begin_11 ?_
  refine V.pI hc pI_X6_18 rfl dX6_begin_12 (fun h3 e => ?_)
  replace hw := hw h3 e
  clear e
  refine V.aload_n (t := 6) hc dX6_begin_15 rfl rfl ?_
  refine V.iconst hc dX6_begin_16 ?_
  refine V.pI hc pI_X6_21 rfl dX6_begin_17 (fun h4 e => ?_)
  replace hw := hw h4 e
  clear e
  refine V.aload_n (t := 6) hc dX6_begin_20 rfl rfl ?_
  refine V.iconst hc dX6_begin_21 ?_
  refine V.pI hc pI_X6_24 rfl dX6_begin_22 (fun h5 e => ?_)
  replace hw := hw h5 e
  clear e
  refine V.aload_n (t := 6) hc dX6_begin_25 rfl rfl ?_
  refine V.iconst hc dX6_begin_26 ?_
  refine V.pI hc pI_X6_27 rfl dX6_begin_27 (fun h6 e => ?_)
  replace hw := hw h6 e
  clear e
  refine V.aload_n (t := 6) hc dX6_begin_30 rfl rfl ?_
  refine V.gR hc gR_X6_30 (i' := o) rfl dX6_begin_31 ?_
  refine V.iconst hc dX6_begin_34 ?_
  refine V.callSV hc (qJ7_fill_53178 G l _ _ _ _ _ hw) mo_J7_fill_53178 ml_X6_72 (as := [(34, o), (0, 0)]) rfl rfl rfl rfl rfl ⟨Nat.zero_le _, Nat.zero_le _⟩ dX6_begin_35 (fun h7 hw => ?_)
  refine V.aload_n (t := 6) hc dX6_begin_38 rfl rfl ?_
  refine V.gR hc gR_X6_34 (i' := o) rfl dX6_begin_39 ?_
  refine V.iconst hc dX6_begin_42 ?_
  refine V.callSV hc (qJ7_fill_53178 G l _ _ _ _ _ hw) mo_J7_fill_53178 ml_X6_72 (as := [(35, o), (0, 0)]) rfl rfl rfl rfl rfl ⟨Nat.zero_le _, Nat.zero_le _⟩ dX6_begin_43 (fun h8 hw => ?_)
  refine V.aload_n (t := 6) hc dX6_begin_46 rfl rfl ?_
  refine V.gR hc gR_X6_37 (i' := o) rfl dX6_begin_47 ?_
  refine V.iconst hc dX6_begin_50 ?_
  refine V.callSV hc (qJ7_fill_53178 G l _ _ _ _ _ hw) mo_J7_fill_53178 ml_X6_72 (as := [(36, o), (0, 0)]) rfl rfl rfl rfl rfl ⟨Nat.zero_le _, Nat.zero_le _⟩ dX6_begin_51 (fun h9 hw => ?_)
  refine V.aload_n (t := 6) hc dX6_begin_54 rfl rfl ?_
  refine V.gR hc gR_X6_40 (i' := o) rfl dX6_begin_55 ?_
  refine V.iconst hc dX6_begin_58 ?_
  refine V.callSV hc (qJ7_fill_53178 G l _ _ _ _ _ hw) mo_J7_fill_53178 ml_X6_72 (as := [(37, o), (0, 0)]) rfl rfl rfl rfl rfl ⟨Nat.zero_le _, Nat.zero_le _⟩ dX6_begin_59 (fun h10 hw => ?_)
  refine V.aload_n (t := 6) hc dX6_begin_62 rfl rfl ?_
  refine V.gR hc gR_X6_43 (i' := o) rfl dX6_begin_63 ?_
  refine V.iconst hc dX6_begin_66 ?_
  refine V.callSV hc (qJ7_fill_53178 G l _ _ _ _ _ hw) mo_J7_fill_53178 ml_X6_72 (as := [(38, o), (0, 0)]) rfl rfl rfl rfl rfl ⟨Nat.zero_le _, Nat.zero_le _⟩ dX6_begin_67 (fun h11 hw => ?_)
  refine V.aload_n (t := 6) hc dX6_begin_70 rfl rfl ?_
  refine V.gR hc gR_X6_46 (i' := o) rfl dX6_begin_71 ?_
  refine V.iconst hc dX6_begin_74 ?_
  refine V.callSV hc (qJ7_fill_53178 G l _ _ _ _ _ hw) mo_J7_fill_53178 ml_X6_72 (as := [(39, o), (0, 0)]) rfl rfl rfl rfl rfl ⟨Nat.zero_le _, Nat.zero_le _⟩ dX6_begin_75 (fun h12 hw => ?_)
  refine V.aload_n (t := 6) hc dX6_begin_78 rfl rfl ?_
  refine V.gR hc gR_X6_52 (i' := o) rfl dX6_begin_79 ?_
  refine V.iconst hc dX6_begin_82 ?_
  refine V.callSV hc (qJ7_fill_53178 G l _ _ _ _ _ hw) mo_J7_fill_53178 ml_X6_72 (as := [(41, o), (0, 0)]) rfl rfl rfl rfl rfl ⟨Nat.zero_le _, Nat.zero_le _⟩ dX6_begin_83 (fun h13 hw => ?_)
  refine V.aload_n (t := 6) hc dX6_begin_86 rfl rfl ?_
  refine V.gR hc gR_X6_68 (i' := 1) rfl dX6_begin_87 ?_
  refine V.gR hc gR_X6_78 (i' := 1) rfl dX6_begin_90 ?_
  refine V.iconst hc dX6_begin_93 ?_
  refine V.aload_n (t := 6) hc dX6_begin_94 rfl rfl ?_
  refine V.gR hc gR_X6_55 (i' := o) rfl dX6_begin_95 ?_
  refine V.iconst hc dX6_begin_98 ?_
  refine V.aload_n (t := 6) hc dX6_begin_99 rfl rfl ?_
  refine V.gR hc gR_X6_55 (i' := o) rfl dX6_begin_100 ?_
  refine V.aln hc ak_32 dX6_begin_103 ?_
  obtain ⟨g15, hw⟩ := hw
  refine V.acp hc ml_X6_83 rfl ak_43 ak_32 g15 dX6_begin_104 (fun h14 e => ?_)
  replace hw := hw h14 e
  clear e
  refine V.aload_n (t := 6) hc dX6_begin_107 rfl rfl ?_
  refine V.gR hc gR_X6_61 (i' := o) rfl dX6_begin_108 ?_
  refine V.aload_n (t := 6) hc dX6_begin_111 rfl rfl ?_
  refine V.gR hc gR_X6_68 (i' := 1) rfl dX6_begin_112 ?_
  refine V.gR hc gR_X6_89 (i' := 1) rfl dX6_begin_115 ?_
  refine V.bipush hc dX6_begin_118 (by decide) ?_
  refine V.callVV hc (qX1_copyFrom G l _ _ _ _ _ hw) mo_X1_copyFrom ml_X6_92 (by rfl) rfl rfl (as := [(11, 1), (0, 12)]) rfl rfl rfl rfl rfl ⟨Nat.zero_le _, Nat.zero_le _⟩ dX6_begin_120 (fun h16 hw => ?_)
  exact V.vret hc hr dX6_begin_123 hw
theorem qX6_isActive (G : GG) (l : Launch) (o : Int) (a1 : Int) (h : HP) (P : Int → HP → Prop) (hw : wX6_isActive o a1 h P) : CnI l G yX6_isActive cX6_isActive 2 (some .boolean) 1 [(16, o), (0, a1)] h P := by
  refine CnI.of (lo := [(16, o), (0, a1)]) (by decide) rfl rfl rfl ?_
  intro p e s m args below meth c hc hr
  have hc : VC G p (rmD 1 0) s m args meth c RX6 cX6_isActive 2 1 := hc
  refine V.aload_n (t := 6) hc dX6_isActive_0 rfl rfl ?_
  refine V.gR hc gR_X6_46 (i' := o) rfl dX6_isActive_1 ?_
  refine V.iload_n hc dX6_isActive_4 rfl rfl ?_
  obtain ⟨g1, hw⟩ := hw
  refine V.ald hc ak_29 g1 dX6_isActive_5 ?_
  obtain ⟨q4, hw⟩ := hw
  have kJ6 : ∀ t3 : Int, ((h 29 o a1 ≤ 0 → t3 = 0) ∧ (¬ h 29 o a1 ≤ 0 → t3 = 1)) → V G p l e (rmD 1 0) s m args below meth c (MQ below (QI G P) args s 0 0 (va_Aof G)) 2 14 [(1, 0), (1, 0)] [(0, t3)] h 0 := by
    intro t3 he
    replace hw := hw t3 he
    clear he
    obtain ⟨g5, hw⟩ := hw
    exact V.zret hc hr dX6_isActive_14 g5 hw
  have g2 := q4
  refine V.if_le hc (tgt := 13) dX6_isActive_6 (by decide) g2 (fun c7 => ?_) (fun c7 => ?_)
  · refine V.iconst hc dX6_isActive_13 ?_
    refine V.drop (lo' := [(1, 0), (1, 0)]) ⟨Or.inl rfl, Or.inl rfl, trivial⟩ ?_
    exact kJ6 _ ⟨fun _ => rfl, (fun q => absurd c7 q)⟩
  · refine V.iconst hc dX6_isActive_9 ?_
    refine V.goto hc (tgt := 14) dX6_isActive_10 (by decide) ?_
    refine V.drop (lo' := [(1, 0), (1, 0)]) ⟨Or.inl rfl, Or.inl rfl, trivial⟩ ?_
    exact kJ6 _ ⟨(fun q => absurd q c7), fun _ => rfl⟩
theorem qX6_hasCurve (G : GG) (l : Launch) (o : Int) (a1 : Int) (a2 : Int) (h : HP) (P : Int → HP → Prop) (hw : wX6_hasCurve o a1 a2 h P) : CnI l G yX6_hasCurve cX6_hasCurve 3 (some .boolean) 2 [(16, o), (0, a1), (0, a2)] h P := by
  refine CnI.of (lo := [(16, o), (0, a1), (0, a2)]) (by decide) rfl rfl rfl ?_
  intro p e s m args below meth c hc hr
  have hc : VC G p (rmD 2 0) s m args meth c RX6 cX6_hasCurve 3 2 := hc
  refine V.aload_n (t := 6) hc dX6_hasCurve_0 rfl rfl ?_
  refine V.gR hc gR_X6_61 (i' := o) rfl dX6_hasCurve_1 ?_
  refine V.iload_n hc dX6_hasCurve_4 rfl rfl ?_
  refine V.iconst hc dX6_hasCurve_5 ?_
  refine V.imul hc dX6_hasCurve_6 ?_
  refine V.iload_n hc dX6_hasCurve_7 rfl rfl ?_
  refine V.iadd hc dX6_hasCurve_8 ?_
  refine V.callVI hc (qX1_has G l _ _ _ _ hw) mo_X1_has ml_X6_102 (by rfl) rfl rfl (as := [(0, (a1 * 3) + a2)]) rfl rfl rfl rfl rfl ⟨Nat.zero_le _, Nat.zero_le _⟩ dX6_hasCurve_9 (fun x2 h1 hw => ?_)
  obtain ⟨g3, hw⟩ := hw
  exact V.zret hc hr dX6_hasCurve_12 g3 hw
theorem tX6_bytes_4 {G : GG} {p : Program} {l : Launch} {e : Jvm.Env} {s : State} {m : MethodId} {args : Array Value} {below : List Frame} {meth : Method} {c : Code} {P : Int → HP → Prop} (hc : VC G p (rmD 3 0) s m args meth c RX6 cX6_bytes 4 3) (hr : meth.sig.returnType = some .int) {o : Int} {a1 : Int} {K28 : Int → HP → Prop} (hK28 : ∀ (x2 : Int) (h : HP), K28 x2 h → V G p l e (rmD 3 0) s m args below meth c (MQ below (QI G P) args s 0 0 (va_Aof G)) 4 28 [(1, 0), (1, 0), (0, x2), (1, 0)] [] h 0) : ∀ (f : Nat) (l2 : Int) (l3 : Int) (h : HP), wX6_bytes_4 o a1 K28 f l2 l3 h → V G p l e (rmD 3 0) s m args below meth c (MQ below (QI G P) args s 0 0 (va_Aof G)) 4 4 [(16, o), (0, a1), (0, l2), (0, l3)] [] h 0 := by
  intro f
  induction f with
  | zero =>
    intro l2 l3 h hw
    exact hw.elim
  | succ f ih =>
    intro l2 l3 h hw
    refine V.iload_n hc dX6_bytes_4 rfl rfl ?_
    refine V.aload_n (t := 6) hc dX6_bytes_5 rfl rfl ?_
    refine V.iload_n hc dX6_bytes_6 rfl rfl ?_
    refine V.callVI hc (qX6_packets G l _ _ _ _ hw) mo_X6_packets ml_X6_109 (by rfl) rfl rfl (as := [(0, a1)]) rfl rfl rfl rfl rfl ⟨Nat.zero_le _, Nat.zero_le _⟩ dX6_bytes_7 (fun x2 h1 hw => ?_)
    obtain ⟨g3, hw⟩ := hw
    obtain ⟨g4, hw⟩ := hw
    refine V.icmp_ge hc (tgt := 28) dX6_bytes_10 (by decide) g3 g4 (fun c5 => ?_) (fun c5 => ?_)
    · replace hw := hw.1 c5
      refine V.drop (lo' := [(1, 0), (1, 0), (0, l2), (1, 0)]) ⟨Or.inl rfl, Or.inl rfl, Or.inr rfl, Or.inl rfl, trivial⟩ ?_
      exact hK28 _ _ hw
    · replace hw := hw.2 c5
      refine V.iload_n hc dX6_bytes_13 rfl rfl ?_
      refine V.aload_n (t := 6) hc dX6_bytes_14 rfl rfl ?_
      refine V.iload_n hc dX6_bytes_15 rfl rfl ?_
      refine V.iload_n hc dX6_bytes_16 rfl rfl ?_
      refine V.callVI hc (qX6_sizeOf G l _ _ _ _ _ hw) mo_X6_sizeOf ml_X6_113 (by rfl) rfl rfl (as := [(0, a1), (0, l3)]) rfl rfl rfl rfl rfl ⟨Nat.zero_le _, Nat.zero_le _⟩ dX6_bytes_17 (fun x7 h6 hw => ?_)
      refine V.iadd hc dX6_bytes_20 ?_
      refine V.istore_n hc dX6_bytes_21 rfl rfl (lo' := [(16, o), (0, a1), (0, l2 + x7), (0, l3)]) rfl ?_
      refine V.iinc hc dX6_bytes_22 rfl rfl (lo' := [(16, o), (0, a1), (0, l2 + x7), (0, l3 + 1)]) rfl ?_
      refine V.goto hc (tgt := 4) dX6_bytes_25 (by decide) ?_
      exact ih _ _ _ hw
theorem qX6_bytes (G : GG) (l : Launch) (o : Int) (a1 : Int) (h : HP) (P : Int → HP → Prop) (hw : wX6_bytes o a1 h P) : CnI l G yX6_bytes cX6_bytes 4 (some .int) 3 [(16, o), (0, a1)] h P := by
  refine CnI.of (lo := [(16, o), (0, a1), (1, 0), (1, 0)]) (by decide) rfl rfl rfl ?_
  intro p e s m args below meth c hc hr
  have hc : VC G p (rmD 3 0) s m args meth c RX6 cX6_bytes 4 3 := hc
  refine V.iconst hc dX6_bytes_0 ?_
  refine V.istore_n hc dX6_bytes_1 rfl rfl (lo' := [(16, o), (0, a1), (0, 0), (1, 0)]) rfl ?_
  refine V.iconst hc dX6_bytes_2 ?_
  refine V.istore_n hc dX6_bytes_3 rfl rfl (lo' := [(16, o), (0, a1), (0, 0), (0, 0)]) rfl ?_
  obtain ⟨f8, hw⟩ := hw
  refine tX6_bytes_4 hc hr ?_ f8 _ _ _ hw
  · intro l9 h10 hw
    refine V.iload_n hc dX6_bytes_28 rfl rfl ?_
    exact V.iret hc hr dX6_bytes_29 hw
theorem tX6_activeLeaves_4 {G : GG} {p : Program} {l : Launch} {e : Jvm.Env} {s : State} {m : MethodId} {args : Array Value} {below : List Frame} {meth : Method} {c : Code} {P : Int → HP → Prop} (hc : VC G p (rmD 3 0) s m args meth c RX6 cX6_activeLeaves 3 3) (hr : meth.sig.returnType = some .int) {o : Int} {K37 : Int → HP → Prop} (hK37 : ∀ (x1 : Int) (h : HP), K37 x1 h → V G p l e (rmD 3 0) s m args below meth c (MQ below (QI G P) args s 0 0 (va_Aof G)) 3 37 [(1, 0), (0, x1), (1, 0)] [] h 0) : ∀ (f : Nat) (l1 : Int) (l2 : Int) (h : HP), wX6_activeLeaves_4 o K37 f l1 l2 h → V G p l e (rmD 3 0) s m args below meth c (MQ below (QI G P) args s 0 0 (va_Aof G)) 3 4 [(16, o), (0, l1), (0, l2)] [] h 0 := by
  intro f
  induction f with
  | zero =>
    intro l1 l2 h hw
    exact hw.elim
  | succ f ih =>
    intro l1 l2 h hw
    refine V.iload_n hc dX6_activeLeaves_4 rfl rfl ?_
    refine V.aload_n (t := 6) hc dX6_activeLeaves_5 rfl rfl ?_
    refine V.gR hc gR_X6_68 (i' := 1) rfl dX6_activeLeaves_6 ?_
    refine V.gI hc gI_X6_96 rfl dX6_activeLeaves_9 ?_
    obtain ⟨g1, hw⟩ := hw
    obtain ⟨g2, hw⟩ := hw
    refine V.icmp_ge hc (tgt := 37) dX6_activeLeaves_12 (by decide) g1 g2 (fun c3 => ?_) (fun c3 => ?_)
    · replace hw := hw.1 c3
      refine V.drop (lo' := [(1, 0), (0, l1), (1, 0)]) ⟨Or.inl rfl, Or.inr rfl, Or.inl rfl, trivial⟩ ?_
      exact hK37 _ _ hw
    · replace hw := hw.2 c3
      refine V.iload_n hc dX6_activeLeaves_15 rfl rfl ?_
      refine V.aload_n (t := 6) hc dX6_activeLeaves_16 rfl rfl ?_
      refine V.iload_n hc dX6_activeLeaves_17 rfl rfl ?_
      refine V.callVI hc (qX6_packets G l _ _ _ _ hw) mo_X6_packets ml_X6_109 (by rfl) rfl rfl (as := [(0, l2)]) rfl rfl rfl rfl rfl ⟨Nat.zero_le _, Nat.zero_le _⟩ dX6_activeLeaves_18 (fun x5 h4 hw => ?_)
      obtain ⟨q8, hw⟩ := hw
      have kJ9 : ∀ t7 : Int, ((x5 ≤ 0 → t7 = 0) ∧ (¬ x5 ≤ 0 → t7 = 1)) → V G p l e (rmD 3 0) s m args below meth c (MQ below (QI G P) args s 0 0 (va_Aof G)) 3 29 [(16, o), (1, 0), (0, l2)] [(0, t7), (0, l1)] h4 0 := by
        intro t7 he
        replace hw := hw t7 he
        clear he
        refine V.iadd hc dX6_activeLeaves_29 ?_
        refine V.istore_n hc dX6_activeLeaves_30 rfl rfl (lo' := [(16, o), (0, l1 + t7), (0, l2)]) rfl ?_
        refine V.iinc hc dX6_activeLeaves_31 rfl rfl (lo' := [(16, o), (0, l1 + t7), (0, l2 + 1)]) rfl ?_
        refine V.goto hc (tgt := 4) dX6_activeLeaves_34 (by decide) ?_
        exact ih _ _ _ hw
      have g6 := q8
      refine V.if_le hc (tgt := 28) dX6_activeLeaves_21 (by decide) g6 (fun c10 => ?_) (fun c10 => ?_)
      · refine V.iconst hc dX6_activeLeaves_28 ?_
        refine V.drop (lo' := [(16, o), (1, 0), (0, l2)]) ⟨Or.inr rfl, Or.inl rfl, Or.inr rfl, trivial⟩ ?_
        exact kJ9 _ ⟨fun _ => rfl, (fun q => absurd c10 q)⟩
      · refine V.iconst hc dX6_activeLeaves_24 ?_
        refine V.goto hc (tgt := 29) dX6_activeLeaves_25 (by decide) ?_
        refine V.drop (lo' := [(16, o), (1, 0), (0, l2)]) ⟨Or.inr rfl, Or.inl rfl, Or.inr rfl, trivial⟩ ?_
        exact kJ9 _ ⟨(fun q => absurd q c10), fun _ => rfl⟩
theorem qX6_activeLeaves (G : GG) (l : Launch) (o : Int) (h : HP) (P : Int → HP → Prop) (hw : wX6_activeLeaves o h P) : CnI l G yX6_activeLeaves cX6_activeLeaves 3 (some .int) 3 [(16, o)] h P := by
  refine CnI.of (lo := [(16, o), (1, 0), (1, 0)]) (by decide) rfl rfl rfl ?_
  intro p e s m args below meth c hc hr
  have hc : VC G p (rmD 3 0) s m args meth c RX6 cX6_activeLeaves 3 3 := hc
  refine V.iconst hc dX6_activeLeaves_0 ?_
  refine V.istore_n hc dX6_activeLeaves_1 rfl rfl (lo' := [(16, o), (0, 0), (1, 0)]) rfl ?_
  refine V.iconst hc dX6_activeLeaves_2 ?_
  refine V.istore_n hc dX6_activeLeaves_3 rfl rfl (lo' := [(16, o), (0, 0), (0, 0)]) rfl ?_
  obtain ⟨f11, hw⟩ := hw
  refine tX6_activeLeaves_4 hc hr ?_ f11 _ _ _ hw
  · intro l12 h13 hw
    refine V.iload_n hc dX6_activeLeaves_37 rfl rfl ?_
    exact V.iret hc hr dX6_activeLeaves_38 hw
theorem qX6_fitOf (G : GG) (l : Launch) (o : Int) (a1 : Int) (h : HP) (P : Int → HP → Prop) (hw : wX6_fitOf o a1 h P) : CnI l G yX6_fitOf cX6_fitOf 2 (some .int) 3 [(16, o), (0, a1)] h P := by
  refine CnI.of (lo := [(16, o), (0, a1)]) (by decide) rfl rfl rfl ?_
  intro p e s m args below meth c hc hr
  have hc : VC G p (rmD 3 0) s m args meth c RX6 cX6_fitOf 2 3 := hc
  refine V.aload_n (t := 6) hc dX6_fitOf_0 rfl rfl ?_
  refine V.callVV hc (qX6_weighFits G l _ _ _ hw) mo_X6_weighFits ml_X6_133 (by rfl) rfl rfl (as := []) rfl rfl rfl rfl rfl ⟨Nat.zero_le _, Nat.zero_le _⟩ dX6_fitOf_1 (fun h1 hw => ?_)
  refine V.aload_n (t := 6) hc dX6_fitOf_4 rfl rfl ?_
  refine V.gR hc gR_X6_65 (i' := o) rfl dX6_fitOf_5 ?_
  refine V.iload_n hc dX6_fitOf_8 rfl rfl ?_
  obtain ⟨g2, hw⟩ := hw
  refine V.ald hc ak_33 g2 dX6_fitOf_9 ?_
  exact V.iret hc hr dX6_fitOf_10 hw
theorem qX7_clear (G : GG) (l : Launch) (o : Int) (h : HP) (P : HP → Prop) (hw : wX7_clear o h P) : CnV l G yX7_clear cX7_clear 1 1 [(17, o)] h P := by
  refine CnV.of (lo := [(17, o)]) (by decide) rfl rfl rfl ?_
  intro p e s m args below meth c hc hr
  have hc : VC G p (rmD 1 0) s m args meth c RX7 cX7_clear 1 1 := hc
  refine V.aload_n (t := 7) hc dX7_clear_0 rfl rfl ?_
  refine V.iconst hc dX7_clear_1 ?_
  refine V.pI hc pI_X7_9 rfl dX7_clear_2 (fun h1 e => ?_)
  replace hw := hw h1 e
  clear e
  exact V.vret hc hr dX7_clear_5 hw
theorem qX7_copyFrom (G : GG) (l : Launch) (o : Int) (o1 : Int) (h : HP) (P : HP → Prop) (hw : wX7_copyFrom o o1 h P) : CnV l G yX7_copyFrom cX7_copyFrom 2 2 [(17, o), (17, o1)] h P := by
  refine CnV.of (lo := [(17, o), (17, o1)]) (by decide) rfl rfl rfl ?_
  intro p e s m args below meth c hc hr
  have hc : VC G p (rmD 2 0) s m args meth c RX7 cX7_copyFrom 2 2 := hc
  refine V.aload_n (t := 7) hc dX7_copyFrom_0 rfl rfl ?_
  refine V.aload_n (t := 7) hc dX7_copyFrom_1 rfl rfl ?_
  refine V.gI hc gI_X7_9 rfl dX7_copyFrom_2 ?_
  refine V.pI hc pI_X7_9 rfl dX7_copyFrom_5 (fun h1 e => ?_)
  replace hw := hw h1 e
  clear e
  refine V.aload_n (t := 7) hc dX7_copyFrom_8 rfl rfl ?_
  refine V.gR hc gR_X7_15 (i' := o1) rfl dX7_copyFrom_9 ?_
  refine V.iconst hc dX7_copyFrom_12 ?_
  refine V.aload_n (t := 7) hc dX7_copyFrom_13 rfl rfl ?_
  refine V.gR hc gR_X7_15 (i' := o) rfl dX7_copyFrom_14 ?_
  refine V.iconst hc dX7_copyFrom_17 ?_
  refine V.aload_n (t := 7) hc dX7_copyFrom_18 rfl rfl ?_
  refine V.gI hc gI_X7_9 rfl dX7_copyFrom_19 ?_
  obtain ⟨g3, hw⟩ := hw
  refine V.acp hc ml_X7_25 rfl ak_34 ak_34 g3 dX7_copyFrom_22 (fun h2 e => ?_)
  replace hw := hw h2 e
  clear e
  refine V.aload_n (t := 7) hc dX7_copyFrom_25 rfl rfl ?_
  refine V.gR hc gR_X7_19 (i' := o1) rfl dX7_copyFrom_26 ?_
  refine V.iconst hc dX7_copyFrom_29 ?_
  refine V.aload_n (t := 7) hc dX7_copyFrom_30 rfl rfl ?_
  refine V.gR hc gR_X7_19 (i' := o) rfl dX7_copyFrom_31 ?_
  refine V.iconst hc dX7_copyFrom_34 ?_
  refine V.aload_n (t := 7) hc dX7_copyFrom_35 rfl rfl ?_
  refine V.gI hc gI_X7_9 rfl dX7_copyFrom_36 ?_
  obtain ⟨g5, hw⟩ := hw
  refine V.acp hc ml_X7_25 rfl ak_35 ak_35 g5 dX7_copyFrom_39 (fun h4 e => ?_)
  replace hw := hw h4 e
  clear e
  refine V.aload_n (t := 7) hc dX7_copyFrom_42 rfl rfl ?_
  refine V.gR hc gR_X7_22 (i' := o1) rfl dX7_copyFrom_43 ?_
  refine V.iconst hc dX7_copyFrom_46 ?_
  refine V.aload_n (t := 7) hc dX7_copyFrom_47 rfl rfl ?_
  refine V.gR hc gR_X7_22 (i' := o) rfl dX7_copyFrom_48 ?_
  refine V.iconst hc dX7_copyFrom_51 ?_
  refine V.aload_n (t := 7) hc dX7_copyFrom_52 rfl rfl ?_
  refine V.gI hc gI_X7_9 rfl dX7_copyFrom_53 ?_
  obtain ⟨g7, hw⟩ := hw
  refine V.acp hc ml_X7_25 rfl ak_36 ak_36 g7 dX7_copyFrom_56 (fun h6 e => ?_)
  replace hw := hw h6 e
  clear e
  exact V.vret hc hr dX7_copyFrom_59 hw
theorem qX8_clear (G : GG) (l : Launch) (o : Int) (h : HP) (P : HP → Prop) (hw : wX8_clear o h P) : CnV l G yX8_clear cX8_clear 1 3 [(18, o)] h P := by
  refine CnV.of (lo := [(18, o)]) (by decide) rfl rfl rfl ?_
  intro p e s m args below meth c hc hr
  have hc : VC G p (rmD 3 0) s m args meth c RX8 cX8_clear 1 3 := hc
  refine V.aload_n (t := 8) hc dX8_clear_0 rfl rfl ?_
  refine V.iconst hc dX8_clear_1 ?_
  refine V.pI hc pI_X8_9 rfl dX8_clear_2 (fun h1 e => ?_)
  replace hw := hw h1 e
  clear e
  refine V.aload_n (t := 8) hc dX8_clear_5 rfl rfl ?_
  refine V.iconst hc dX8_clear_6 ?_
  refine V.pI hc pI_X8_15 rfl dX8_clear_7 (fun h2 e => ?_)
  replace hw := hw h2 e
  clear e
  refine V.aload_n (t := 8) hc dX8_clear_10 rfl rfl ?_
  refine V.gR hc gR_X8_22 (i' := o) rfl dX8_clear_11 ?_
  refine V.iconst hc dX8_clear_14 ?_
  refine V.callSV hc (qJ7_fill_53178 G l _ _ _ _ _ hw) mo_J7_fill_53178 ml_X8_47 (as := [(48, o), (0, 0)]) rfl rfl rfl rfl rfl ⟨Nat.zero_le _, Nat.zero_le _⟩ dX8_clear_15 (fun h3 hw => ?_)
  refine V.aload_n (t := 8) hc dX8_clear_18 rfl rfl ?_
  refine V.gR hc gR_X8_43 (i' := o) rfl dX8_clear_19 ?_
  refine V.callVV hc (qX1_clear G l _ _ _ hw) mo_X1_clear ml_X8_53 (by rfl) rfl rfl (as := []) rfl rfl rfl rfl rfl ⟨Nat.zero_le _, Nat.zero_le _⟩ dX8_clear_22 (fun h4 hw => ?_)
  exact V.vret hc hr dX8_clear_25 hw
theorem qX8_copyFrom (G : GG) (l : Launch) (o : Int) (o1 : Int) (h : HP) (P : HP → Prop) (hw : wX8_copyFrom o o1 h P) : CnV l G yX8_copyFrom cX8_copyFrom 2 3 [(18, o), (18, o1)] h P := by
  refine CnV.of (lo := [(18, o), (18, o1)]) (by decide) rfl rfl rfl ?_
  intro p e s m args below meth c hc hr
  have hc : VC G p (rmD 3 0) s m args meth c RX8 cX8_copyFrom 2 3 := hc
  refine V.aload_n (t := 8) hc dX8_copyFrom_0 rfl rfl ?_
  refine V.aload_n (t := 8) hc dX8_copyFrom_1 rfl rfl ?_
  refine V.gI hc gI_X8_9 rfl dX8_copyFrom_2 ?_
  refine V.pI hc pI_X8_9 rfl dX8_copyFrom_5 (fun h1 e => ?_)
  replace hw := hw h1 e
  clear e
  refine V.aload_n (t := 8) hc dX8_copyFrom_8 rfl rfl ?_
  refine V.aload_n (t := 8) hc dX8_copyFrom_9 rfl rfl ?_
  refine V.gI hc gI_X8_15 rfl dX8_copyFrom_10 ?_
  refine V.pI hc pI_X8_15 rfl dX8_copyFrom_13 (fun h2 e => ?_)
  replace hw := hw h2 e
  clear e
  refine V.aload_n (t := 8) hc dX8_copyFrom_16 rfl rfl ?_
  refine V.gR hc gR_X8_18 (i' := o1) rfl dX8_copyFrom_17 ?_
  refine V.iconst hc dX8_copyFrom_20 ?_
  refine V.aload_n (t := 8) hc dX8_copyFrom_21 rfl rfl ?_
  refine V.gR hc gR_X8_18 (i' := o) rfl dX8_copyFrom_22 ?_
  refine V.iconst hc dX8_copyFrom_25 ?_
  refine V.aload_n (t := 8) hc dX8_copyFrom_26 rfl rfl ?_
  refine V.gR hc gR_X8_18 (i' := o) rfl dX8_copyFrom_27 ?_
  refine V.aln hc ak_37 dX8_copyFrom_30 ?_
  obtain ⟨g4, hw⟩ := hw
  refine V.acp hc ml_X8_56 rfl ak_37 ak_37 g4 dX8_copyFrom_31 (fun h3 e => ?_)
  replace hw := hw h3 e
  clear e
  refine V.aload_n (t := 8) hc dX8_copyFrom_34 rfl rfl ?_
  refine V.gR hc gR_X8_22 (i' := o1) rfl dX8_copyFrom_35 ?_
  refine V.iconst hc dX8_copyFrom_38 ?_
  refine V.aload_n (t := 8) hc dX8_copyFrom_39 rfl rfl ?_
  refine V.gR hc gR_X8_22 (i' := o) rfl dX8_copyFrom_40 ?_
  refine V.iconst hc dX8_copyFrom_43 ?_
  refine V.aload_n (t := 8) hc dX8_copyFrom_44 rfl rfl ?_
  refine V.gR hc gR_X8_22 (i' := o) rfl dX8_copyFrom_45 ?_
  refine V.aln hc ak_38 dX8_copyFrom_48 ?_
  obtain ⟨g6, hw⟩ := hw
  refine V.acp hc ml_X8_56 rfl ak_38 ak_38 g6 dX8_copyFrom_49 (fun h5 e => ?_)
  replace hw := hw h5 e
  clear e
  refine V.aload_n (t := 8) hc dX8_copyFrom_52 rfl rfl ?_
  refine V.gR hc gR_X8_25 (i' := o1) rfl dX8_copyFrom_53 ?_
  refine V.iconst hc dX8_copyFrom_56 ?_
  refine V.aload_n (t := 8) hc dX8_copyFrom_57 rfl rfl ?_
  refine V.gR hc gR_X8_25 (i' := o) rfl dX8_copyFrom_58 ?_
  refine V.iconst hc dX8_copyFrom_61 ?_
  refine V.aload_n (t := 8) hc dX8_copyFrom_62 rfl rfl ?_
  refine V.gR hc gR_X8_25 (i' := o) rfl dX8_copyFrom_63 ?_
  refine V.aln hc ak_39 dX8_copyFrom_66 ?_
  obtain ⟨g8, hw⟩ := hw
  refine V.acp hc ml_X8_56 rfl ak_39 ak_39 g8 dX8_copyFrom_67 (fun h7 e => ?_)
  replace hw := hw h7 e
  clear e
  refine V.aload_n (t := 8) hc dX8_copyFrom_70 rfl rfl ?_
  refine V.gR hc gR_X8_28 (i' := o1) rfl dX8_copyFrom_71 ?_
  refine V.iconst hc dX8_copyFrom_74 ?_
  refine V.aload_n (t := 8) hc dX8_copyFrom_75 rfl rfl ?_
  refine V.gR hc gR_X8_28 (i' := o) rfl dX8_copyFrom_76 ?_
  refine V.iconst hc dX8_copyFrom_79 ?_
  refine V.aload_n (t := 8) hc dX8_copyFrom_80 rfl rfl ?_
  refine V.gR hc gR_X8_28 (i' := o) rfl dX8_copyFrom_81 ?_
  refine V.aln hc ak_40 dX8_copyFrom_84 ?_
  obtain ⟨g10, hw⟩ := hw
  refine V.acp hc ml_X8_56 rfl ak_40 ak_40 g10 dX8_copyFrom_85 (fun h9 e => ?_)
  replace hw := hw h9 e
  clear e
  refine V.aload_n (t := 8) hc dX8_copyFrom_88 rfl rfl ?_
  refine V.gR hc gR_X8_31 (i' := o1) rfl dX8_copyFrom_89 ?_
  refine V.iconst hc dX8_copyFrom_92 ?_
  refine V.aload_n (t := 8) hc dX8_copyFrom_93 rfl rfl ?_
  refine V.gR hc gR_X8_31 (i' := o) rfl dX8_copyFrom_94 ?_
  refine V.iconst hc dX8_copyFrom_97 ?_
  refine V.aload_n (t := 8) hc dX8_copyFrom_98 rfl rfl ?_
  refine V.gR hc gR_X8_31 (i' := o) rfl dX8_copyFrom_99 ?_
  refine V.aln hc ak_41 dX8_copyFrom_102 ?_
  obtain ⟨g12, hw⟩ := hw
  refine V.acp hc ml_X8_56 rfl ak_41 ak_41 g12 dX8_copyFrom_103 (fun h11 e => ?_)
  replace hw := hw h11 e
  clear e
  refine V.aload_n (t := 8) hc dX8_copyFrom_106 rfl rfl ?_
  refine V.gR hc gR_X8_34 (i' := o1) rfl dX8_copyFrom_107 ?_
  refine V.iconst hc dX8_copyFrom_110 ?_
  refine V.aload_n (t := 8) hc dX8_copyFrom_111 rfl rfl ?_
  refine V.gR hc gR_X8_34 (i' := o) rfl dX8_copyFrom_112 ?_
  refine V.iconst hc dX8_copyFrom_115 ?_
  refine V.aload_n (t := 8) hc dX8_copyFrom_116 rfl rfl ?_
  refine V.gR hc gR_X8_34 (i' := o) rfl dX8_copyFrom_117 ?_
  refine V.aln hc ak_42 dX8_copyFrom_120 ?_
  obtain ⟨g14, hw⟩ := hw
  refine V.acp hc ml_X8_56 rfl ak_42 ak_42 g14 dX8_copyFrom_121 (fun h13 e => ?_)
  replace hw := hw h13 e
  clear e
  refine V.aload_n (t := 8) hc dX8_copyFrom_124 rfl rfl ?_
  refine V.gR hc gR_X8_37 (i' := o1) rfl dX8_copyFrom_125 ?_
  refine V.iconst hc dX8_copyFrom_128 ?_
  refine V.aload_n (t := 8) hc dX8_copyFrom_129 rfl rfl ?_
  refine V.gR hc gR_X8_37 (i' := o) rfl dX8_copyFrom_130 ?_
  refine V.iconst hc dX8_copyFrom_133 ?_
  refine V.aload_n (t := 8) hc dX8_copyFrom_134 rfl rfl ?_
  refine V.gR hc gR_X8_37 (i' := o) rfl dX8_copyFrom_135 ?_
  refine V.aln hc ak_43 dX8_copyFrom_138 ?_
  obtain ⟨g16, hw⟩ := hw
  refine V.acp hc ml_X8_56 rfl ak_43 ak_43 g16 dX8_copyFrom_139 (fun h15 e => ?_)
  replace hw := hw h15 e
  clear e
  refine V.aload_n (t := 8) hc dX8_copyFrom_142 rfl rfl ?_
  refine V.gR hc gR_X8_43 (i' := o) rfl dX8_copyFrom_143 ?_
  refine V.aload_n (t := 8) hc dX8_copyFrom_146 rfl rfl ?_
  refine V.gR hc gR_X8_43 (i' := o1) rfl dX8_copyFrom_147 ?_
  refine V.bipush hc dX8_copyFrom_150 (by decide) ?_
  refine V.callVV hc (qX1_copyFrom G l _ _ _ _ _ hw) mo_X1_copyFrom ml_X8_62 (by rfl) rfl rfl (as := [(11, o1), (0, 12)]) rfl rfl rfl rfl rfl ⟨Nat.zero_le _, Nat.zero_le _⟩ dX8_copyFrom_152 (fun h17 hw => ?_)
  exact V.vret hc hr dX8_copyFrom_155 hw
theorem qX8_hasClass (G : GG) (l : Launch) (o : Int) (a1 : Int) (h : HP) (P : Int → HP → Prop) (hw : wX8_hasClass o a1 h P) : CnI l G yX8_hasClass cX8_hasClass 2 (some .boolean) 1 [(18, o), (0, a1)] h P := by
  refine CnI.of (lo := [(18, o), (0, a1)]) (by decide) rfl rfl rfl ?_
  intro p e s m args below meth c hc hr
  have hc : VC G p (rmD 1 0) s m args meth c RX8 cX8_hasClass 2 1 := hc
  refine V.iload_n hc dX8_hasClass_0 rfl rfl ?_
  obtain ⟨q5, hw⟩ := hw
  have kJ7 : ∀ t4 : Int, ((a1 < 0 → t4 = 0) ∧ (¬ a1 < 0 → ((h 8 o 0 ≤ a1 → t4 = 0) ∧ (¬ h 8 o 0 ≤ a1 → t4 = 1)))) → V G p l e (rmD 1 0) s m args below meth c (MQ below (QI G P) args s 0 0 (va_Aof G)) 2 17 [(1, 0), (1, 0)] [(0, t4)] h 0 := by
    intro t4 he
    replace hw := hw t4 he
    clear he
    obtain ⟨g6, hw⟩ := hw
    exact V.zret hc hr dX8_hasClass_17 g6 hw
  obtain ⟨g1, q8⟩ := q5
  refine V.if_lt hc (tgt := 16) dX8_hasClass_1 (by decide) g1 (fun c9 => ?_) (fun c9 => ?_)
  · refine V.iconst hc dX8_hasClass_16 ?_
    refine V.drop (lo' := [(1, 0), (1, 0)]) ⟨Or.inl rfl, Or.inl rfl, trivial⟩ ?_
    exact kJ7 _ ⟨fun _ => rfl, (fun q => absurd c9 q)⟩
  · have q10 := q8 c9
    obtain ⟨g2, g3⟩ := q10
    refine V.iload_n hc dX8_hasClass_4 rfl rfl ?_
    refine V.aload_n (t := 8) hc dX8_hasClass_5 rfl rfl ?_
    refine V.gI hc gI_X8_9 rfl dX8_hasClass_6 ?_
    refine V.icmp_ge hc (tgt := 16) dX8_hasClass_9 (by decide) g2 g3 (fun c11 => ?_) (fun c11 => ?_)
    · refine V.iconst hc dX8_hasClass_16 ?_
      refine V.drop (lo' := [(1, 0), (1, 0)]) ⟨Or.inl rfl, Or.inl rfl, trivial⟩ ?_
      exact kJ7 _ ⟨(fun q => absurd q c9), fun _ => ⟨fun _ => rfl, (fun q => absurd c11 q)⟩⟩
    · refine V.iconst hc dX8_hasClass_12 ?_
      refine V.goto hc (tgt := 17) dX8_hasClass_13 (by decide) ?_
      refine V.drop (lo' := [(1, 0), (1, 0)]) ⟨Or.inl rfl, Or.inl rfl, trivial⟩ ?_
      exact kJ7 _ ⟨(fun q => absurd q c9), fun _ => ⟨(fun q => absurd q c11), fun _ => rfl⟩⟩
theorem qX8_hasLeaf (G : GG) (l : Launch) (o : Int) (a1 : Int) (h : HP) (P : Int → HP → Prop) (hw : wX8_hasLeaf o a1 h P) : CnI l G yX8_hasLeaf cX8_hasLeaf 2 (some .boolean) 2 [(18, o), (0, a1)] h P := by
  refine CnI.of (lo := [(18, o), (0, a1)]) (by decide) rfl rfl rfl ?_
  intro p e s m args below meth c hc hr
  have hc : VC G p (rmD 2 0) s m args meth c RX8 cX8_hasLeaf 2 2 := hc
  refine V.aload_n (t := 8) hc dX8_hasLeaf_0 rfl rfl ?_
  refine V.iload_n hc dX8_hasLeaf_1 rfl rfl ?_
  refine V.callVI hc (qX8_hasClass G l _ _ _ _ hw) mo_X8_hasClass ml_X8_66 (by rfl) rfl rfl (as := [(0, a1)]) rfl rfl rfl rfl rfl ⟨Nat.zero_le _, Nat.zero_le _⟩ dX8_hasLeaf_2 (fun x2 h1 hw => ?_)
  obtain ⟨g3, hw⟩ := hw
  refine V.if_eq hc (tgt := 20) dX8_hasLeaf_5 (by decide) g3 (fun c4 => ?_) (fun c4 => ?_)
  · replace hw := hw.1 c4
    refine V.iconst hc dX8_hasLeaf_20 ?_
    exact V.zret hc hr dX8_hasLeaf_21 (by omega) hw
  · replace hw := hw.2 c4
    refine V.aload_n (t := 8) hc dX8_hasLeaf_8 rfl rfl ?_
    refine V.iload_n hc dX8_hasLeaf_9 rfl rfl ?_
    refine V.callVI hc (qX8_isLeaf G l _ _ _ _ hw) mo_X8_isLeaf ml_X8_70 (by rfl) rfl rfl (as := [(0, a1)]) rfl rfl rfl rfl rfl ⟨Nat.zero_le _, Nat.zero_le _⟩ dX8_hasLeaf_10 (fun x6 h5 hw => ?_)
    obtain ⟨g7, hw⟩ := hw
    refine V.if_eq hc (tgt := 20) dX8_hasLeaf_13 (by decide) g7 (fun c8 => ?_) (fun c8 => ?_)
    · replace hw := hw.1 c8
      refine V.iconst hc dX8_hasLeaf_20 ?_
      exact V.zret hc hr dX8_hasLeaf_21 (by omega) hw
    · replace hw := hw.2 c8
      refine V.iconst hc dX8_hasLeaf_16 ?_
      refine V.goto hc (tgt := 21) dX8_hasLeaf_17 (by decide) ?_
      exact V.zret hc hr dX8_hasLeaf_21 (by omega) hw
theorem tX8_mayHoldClass_27 {G : GG} {p : Program} {l : Launch} {e : Jvm.Env} {s : State} {m : MethodId} {args : Array Value} {below : List Frame} {meth : Method} {c : Code} {P : Int → HP → Prop} (hc : VC G p (rmD 2 0) s m args meth c RX8 cX8_mayHoldClass 3 2) (hr : meth.sig.returnType = some .boolean) {o : Int} {a1 : Int} {h : HP} {K53 : Prop} {K45 : Prop} (hK53 : K53 → V G p l e (rmD 2 0) s m args below meth c (MQ below (QI G P) args s 0 0 (va_Aof G)) 3 53 [(1, 0), (1, 0), (1, 0)] [] h 0) (hK45 : K45 → V G p l e (rmD 2 0) s m args below meth c (MQ below (QI G P) args s 0 0 (va_Aof G)) 3 45 [(1, 0), (1, 0), (1, 0)] [] h 0) : ∀ (f : Nat) (l2 : Int), wX8_mayHoldClass_27 o a1 h K53 K45 f l2 → V G p l e (rmD 2 0) s m args below meth c (MQ below (QI G P) args s 0 0 (va_Aof G)) 3 27 [(18, o), (0, a1), (0, l2)] [] h 0 := by
  intro f
  induction f with
  | zero =>
    intro l2 hw
    exact hw.elim
  | succ f ih =>
    intro l2 hw
    refine V.iload_n hc dX8_mayHoldClass_27 rfl rfl ?_
    refine V.aload_n (t := 8) hc dX8_mayHoldClass_28 rfl rfl ?_
    refine V.gI hc gI_X8_15 rfl dX8_mayHoldClass_29 ?_
    obtain ⟨g9, hw⟩ := hw
    obtain ⟨g10, hw⟩ := hw
    refine V.icmp_ge hc (tgt := 53) dX8_mayHoldClass_32 (by decide) g9 g10 (fun c11 => ?_) (fun c11 => ?_)
    · replace hw := hw.1 c11
      refine V.drop (lo' := [(1, 0), (1, 0), (1, 0)]) ⟨Or.inl rfl, Or.inl rfl, Or.inl rfl, trivial⟩ ?_
      exact hK53 hw
    · replace hw := hw.2 c11
      refine V.aload_n (t := 8) hc dX8_mayHoldClass_35 rfl rfl ?_
      refine V.gR hc gR_X8_28 (i' := o) rfl dX8_mayHoldClass_36 ?_
      refine V.iload_n hc dX8_mayHoldClass_39 rfl rfl ?_
      obtain ⟨g12, hw⟩ := hw
      refine V.ald hc ak_40 g12 dX8_mayHoldClass_40 ?_
      refine V.iload_n hc dX8_mayHoldClass_41 rfl rfl ?_
      obtain ⟨g13, hw⟩ := hw
      obtain ⟨g14, hw⟩ := hw
      refine V.icmp_ne hc (tgt := 47) dX8_mayHoldClass_42 (by decide) g13 g14 (fun c15 => ?_) (fun c15 => ?_)
      · replace hw := hw.1 c15
        refine V.iinc hc dX8_mayHoldClass_47 rfl rfl (lo' := [(18, o), (0, a1), (0, l2 + 1)]) rfl ?_
        refine V.goto hc (tgt := 27) dX8_mayHoldClass_50 (by decide) ?_
        exact ih _ hw
      · replace hw := hw.2 c15
        refine V.drop (lo' := [(1, 0), (1, 0), (1, 0)]) ⟨Or.inl rfl, Or.inl rfl, Or.inl rfl, trivial⟩ ?_
        exact hK45 hw
theorem qX8_mayHoldClass (G : GG) (l : Launch) (o : Int) (a1 : Int) (h : HP) (P : Int → HP → Prop) (hw : wX8_mayHoldClass o a1 h P) : CnI l G yX8_mayHoldClass cX8_mayHoldClass 3 (some .boolean) 2 [(18, o), (0, a1)] h P := by
  refine CnI.of (lo := [(18, o), (0, a1), (1, 0)]) (by decide) rfl rfl rfl ?_
  intro p e s m args below meth c hc hr
  have hc : VC G p (rmD 2 0) s m args meth c RX8 cX8_mayHoldClass 3 2 := hc
  refine V.aload_n (t := 8) hc dX8_mayHoldClass_0 rfl rfl ?_
  refine V.iload_n hc dX8_mayHoldClass_1 rfl rfl ?_
  refine V.callVI hc (qX8_hasClass G l _ _ _ _ hw) mo_X8_hasClass ml_X8_66 (by rfl) rfl rfl (as := [(0, a1)]) rfl rfl rfl rfl rfl ⟨Nat.zero_le _, Nat.zero_le _⟩ dX8_mayHoldClass_2 (fun x2 h1 hw => ?_)
  obtain ⟨g3, hw⟩ := hw
  refine V.if_eq hc (tgt := 23) dX8_mayHoldClass_5 (by decide) g3 (fun c4 => ?_) (fun c4 => ?_)
  · replace hw := hw.1 c4
    refine V.iconst hc dX8_mayHoldClass_23 ?_
    exact V.zret hc hr dX8_mayHoldClass_24 (by omega) hw
  · replace hw := hw.2 c4
    refine V.aload_n (t := 8) hc dX8_mayHoldClass_8 rfl rfl ?_
    refine V.gR hc gR_X8_43 (i' := o) rfl dX8_mayHoldClass_9 ?_
    refine V.iload_n hc dX8_mayHoldClass_12 rfl rfl ?_
    refine V.iconst hc dX8_mayHoldClass_13 ?_
    refine V.imul hc dX8_mayHoldClass_14 ?_
    refine V.iconst hc dX8_mayHoldClass_15 ?_
    refine V.iadd hc dX8_mayHoldClass_16 ?_
    refine V.callVI hc (qX1_has G l _ _ _ _ hw) mo_X1_has ml_X8_73 (by rfl) rfl rfl (as := [(0, (a1 * 3) + 0)]) rfl rfl rfl rfl rfl ⟨Nat.zero_le _, Nat.zero_le _⟩ dX8_mayHoldClass_17 (fun x6 h5 hw => ?_)
    obtain ⟨g7, hw⟩ := hw
    refine V.if_eq hc (tgt := 25) dX8_mayHoldClass_20 (by decide) g7 (fun c8 => ?_) (fun c8 => ?_)
    · replace hw := hw.1 c8
      refine V.iconst hc dX8_mayHoldClass_25 ?_
      refine V.istore_n hc dX8_mayHoldClass_26 rfl rfl (lo' := [(18, o), (0, a1), (0, 0)]) rfl ?_
      obtain ⟨f16, hw⟩ := hw
      refine tX8_mayHoldClass_27 hc hr ?_ ?_ f16 _ hw
      · intro hw
        refine V.iconst hc dX8_mayHoldClass_53 ?_
        exact V.zret hc hr dX8_mayHoldClass_54 (by omega) hw
      · intro hw
        refine V.iconst hc dX8_mayHoldClass_45 ?_
        exact V.zret hc hr dX8_mayHoldClass_46 (by omega) hw
    · replace hw := hw.2 c8
      refine V.iconst hc dX8_mayHoldClass_23 ?_
      exact V.zret hc hr dX8_mayHoldClass_24 (by omega) hw
theorem qX8_addClass (G : GG) (l : Launch) (o : Int) (a1 : Int) (h : HP) (P : HP → Prop) (hw : wX8_addClass o a1 h P) : CnV l G yX8_addClass cX8_addClass 2 3 [(18, o), (0, a1)] h P := by
  refine CnV.of (lo := [(18, o), (0, a1)]) (by decide) rfl rfl rfl ?_
  intro p e s m args below meth c hc hr
  have hc : VC G p (rmD 3 0) s m args meth c RX8 cX8_addClass 2 3 := hc
  refine V.aload_n (t := 8) hc dX8_addClass_0 rfl rfl ?_
  refine V.gR hc gR_X8_18 (i' := o) rfl dX8_addClass_1 ?_
  refine V.aload_n (t := 8) hc dX8_addClass_4 rfl rfl ?_
  refine V.gI hc gI_X8_9 rfl dX8_addClass_5 ?_
  refine V.iload_n hc dX8_addClass_8 rfl rfl ?_
  obtain ⟨g2, hw⟩ := hw
  refine V.ast hc ak_37 g2 dX8_addClass_9 (fun h1 e => ?_)
  replace hw := hw h1 e
  clear e
  refine V.aload_n (t := 8) hc dX8_addClass_10 rfl rfl ?_
  refine V.gR hc gR_X8_25 (i' := o) rfl dX8_addClass_11 ?_
  refine V.iload_n hc dX8_addClass_14 rfl rfl ?_
  refine V.bipush hc dX8_addClass_15 (by decide) ?_
  refine V.imul hc dX8_addClass_17 ?_
  refine V.aload_n (t := 8) hc dX8_addClass_18 rfl rfl ?_
  refine V.gR hc gR_X8_22 (i' := o) rfl dX8_addClass_19 ?_
  refine V.iload_n hc dX8_addClass_22 rfl rfl ?_
  obtain ⟨g3, hw⟩ := hw
  refine V.ald hc ak_38 g3 dX8_addClass_23 ?_
  refine V.iadd hc dX8_addClass_24 ?_
  refine V.aload_n (t := 8) hc dX8_addClass_25 rfl rfl ?_
  refine V.gI hc gI_X8_9 rfl dX8_addClass_26 ?_
  obtain ⟨g5, hw⟩ := hw
  refine V.ast hc ak_39 g5 dX8_addClass_29 (fun h4 e => ?_)
  replace hw := hw h4 e
  clear e
  refine V.aload_n (t := 8) hc dX8_addClass_30 rfl rfl ?_
  refine V.gR hc gR_X8_22 (i' := o) rfl dX8_addClass_31 ?_
  refine V.iload_n hc dX8_addClass_34 rfl rfl ?_
  refine V.dup2 hc dX8_addClass_35 (by simp) (by simp) ?_
  obtain ⟨g6, hw⟩ := hw
  refine V.ald hc ak_38 g6 dX8_addClass_36 ?_
  refine V.iconst hc dX8_addClass_37 ?_
  refine V.iadd hc dX8_addClass_38 ?_
  obtain ⟨g8, hw⟩ := hw
  refine V.ast hc ak_38 g8 dX8_addClass_39 (fun h7 e => ?_)
  replace hw := hw h7 e
  clear e
  refine V.aload_n (t := 8) hc dX8_addClass_40 rfl rfl ?_
  refine V.gR hc gR_X8_43 (i' := o) rfl dX8_addClass_41 ?_
  refine V.aload_n (t := 8) hc dX8_addClass_44 rfl rfl ?_
  refine V.gI hc gI_X8_9 rfl dX8_addClass_45 ?_
  refine V.iconst hc dX8_addClass_48 ?_
  refine V.imul hc dX8_addClass_49 ?_
  refine V.iconst hc dX8_addClass_50 ?_
  refine V.iadd hc dX8_addClass_51 ?_
  refine V.bipush hc dX8_addClass_52 (by decide) ?_
  refine V.iconst hc dX8_addClass_54 ?_
  refine V.bipush hc dX8_addClass_55 (by decide) ?_
  refine V.callVV hc (qX1_put G l _ _ _ _ _ _ _ hw) mo_X1_put ml_X8_76 (by rfl) rfl rfl (as := [(0, ((h7 8 o 0) * 3) + 1), (0, 10), (0, 0), (0, 10)]) rfl rfl rfl rfl rfl ⟨Nat.zero_le _, Nat.zero_le _⟩ dX8_addClass_57 (fun h9 hw => ?_)
  refine V.aload_n (t := 8) hc dX8_addClass_60 rfl rfl ?_
  refine V.dup hc dX8_addClass_61 (by simp) ?_
  refine V.gI hc gI_X8_9 rfl dX8_addClass_62 ?_
  refine V.iconst hc dX8_addClass_65 ?_
  refine V.iadd hc dX8_addClass_66 ?_
  refine V.pI hc pI_X8_9 rfl dX8_addClass_67 (fun h10 e => ?_)
  replace hw := hw h10 e
  clear e
  exact V.vret hc hr dX8_addClass_70 hw
theorem qX8_addFlow (G : GG) (l : Launch) (o : Int) (a1 : Int) (a2 : Int) (a3 : Int) (a4 : Int) (h : HP) (P : HP → Prop) (hw : wX8_addFlow o a1 a2 a3 a4 h P) : CnV l G yX8_addFlow cX8_addFlow 5 1 [(18, o), (0, a1), (0, a2), (0, a3), (0, a4)] h P := by
  refine CnV.of (lo := [(18, o), (0, a1), (0, a2), (0, a3), (0, a4)]) (by decide) rfl rfl rfl ?_
  intro p e s m args below meth c hc hr
  have hc : VC G p (rmD 1 0) s m args meth c RX8 cX8_addFlow 5 1 := hc
  refine V.aload_n (t := 8) hc dX8_addFlow_0 rfl rfl ?_
  refine V.gR hc gR_X8_28 (i' := o) rfl dX8_addFlow_1 ?_
  refine V.aload_n (t := 8) hc dX8_addFlow_4 rfl rfl ?_
  refine V.gI hc gI_X8_15 rfl dX8_addFlow_5 ?_
  refine V.iload_n hc dX8_addFlow_8 rfl rfl ?_
  obtain ⟨g2, hw⟩ := hw
  refine V.ast hc ak_40 g2 dX8_addFlow_9 (fun h1 e => ?_)
  replace hw := hw h1 e
  clear e
  refine V.aload_n (t := 8) hc dX8_addFlow_10 rfl rfl ?_
  refine V.gR hc gR_X8_31 (i' := o) rfl dX8_addFlow_11 ?_
  refine V.aload_n (t := 8) hc dX8_addFlow_14 rfl rfl ?_
  refine V.gI hc gI_X8_15 rfl dX8_addFlow_15 ?_
  refine V.iload_n hc dX8_addFlow_18 rfl rfl ?_
  obtain ⟨g4, hw⟩ := hw
  refine V.ast hc ak_41 g4 dX8_addFlow_19 (fun h3 e => ?_)
  replace hw := hw h3 e
  clear e
  refine V.aload_n (t := 8) hc dX8_addFlow_20 rfl rfl ?_
  refine V.gR hc gR_X8_34 (i' := o) rfl dX8_addFlow_21 ?_
  refine V.aload_n (t := 8) hc dX8_addFlow_24 rfl rfl ?_
  refine V.gI hc gI_X8_15 rfl dX8_addFlow_25 ?_
  refine V.iload_n hc dX8_addFlow_28 rfl rfl ?_
  obtain ⟨g6, hw⟩ := hw
  refine V.ast hc ak_42 g6 dX8_addFlow_29 (fun h5 e => ?_)
  replace hw := hw h5 e
  clear e
  refine V.aload_n (t := 8) hc dX8_addFlow_30 rfl rfl ?_
  refine V.gR hc gR_X8_37 (i' := o) rfl dX8_addFlow_31 ?_
  refine V.aload_n (t := 8) hc dX8_addFlow_34 rfl rfl ?_
  refine V.gI hc gI_X8_15 rfl dX8_addFlow_35 ?_
  refine V.iload hc dX8_addFlow_38 rfl ?_
  obtain ⟨g8, hw⟩ := hw
  refine V.ast hc ak_43 g8 dX8_addFlow_40 (fun h7 e => ?_)
  replace hw := hw h7 e
  clear e
  refine V.aload_n (t := 8) hc dX8_addFlow_41 rfl rfl ?_
  refine V.dup hc dX8_addFlow_42 (by simp) ?_
  refine V.gI hc gI_X8_15 rfl dX8_addFlow_43 ?_
  refine V.iconst hc dX8_addFlow_46 ?_
  refine V.iadd hc dX8_addFlow_47 ?_
  refine V.pI hc pI_X8_15 rfl dX8_addFlow_48 (fun h9 e => ?_)
  replace hw := hw h9 e
  clear e
  exact V.vret hc hr dX8_addFlow_51 hw
theorem qX9_place (G : GG) (l : Launch) (o : Int) (h : HP) (P : Int → HP → Prop) (hw : wX9_place o h P) : CnI l G yX9_place cX9_place 1 (some .int) 1 [(19, o)] h P := by
  refine CnI.of (lo := [(19, o)]) (by decide) rfl rfl rfl ?_
  intro p e s m args below meth c hc hr
  have hc : VC G p (rmD 1 0) s m args meth c RX9 cX9_place 1 1 := hc
  refine V.aload_n (t := 9) hc dX9_place_0 rfl rfl ?_
  refine V.gI hc gI_X9_15 rfl dX9_place_1 ?_
  exact V.iret hc hr dX9_place_4 hw
theorem qX9_isLetter (G : GG) (l : Launch) (o : Int) (a1 : Int) (h : HP) (P : Int → HP → Prop) (hw : wX9_isLetter o a1 h P) : CnI l G yX9_isLetter cX9_isLetter 2 (some .boolean) 1 [(19, o), (0, a1)] h P := by
  refine CnI.of (lo := [(19, o), (0, a1)]) (by decide) rfl rfl rfl ?_
  intro p e s m args below meth c hc hr
  have hc : VC G p (rmD 1 0) s m args meth c RX9 cX9_isLetter 2 1 := hc
  refine V.aload_n (t := 9) hc dX9_isLetter_0 rfl rfl ?_
  refine V.gR hc gR_X9_27 (i' := 0) rfl dX9_isLetter_1 ?_
  refine V.iload_n hc dX9_isLetter_4 rfl rfl ?_
  obtain ⟨g1, hw⟩ := hw
  refine V.ald hc ak_45 g1 dX9_isLetter_5 ?_
  refine V.bipush hc dX9_isLetter_6 (by decide) ?_
  obtain ⟨q6, hw⟩ := hw
  have kJ8 : ∀ t5 : Int, ((h 45 0 a1 < 97 → t5 = 0) ∧ (¬ h 45 0 a1 < 97 → ((122 < h 45 0 a1 → t5 = 0) ∧ (¬ 122 < h 45 0 a1 → t5 = 1)))) → V G p l e (rmD 1 0) s m args below meth c (MQ below (QI G P) args s 0 0 (va_Aof G)) 2 27 [(1, 0), (1, 0)] [(0, t5)] h 0 := by
    intro t5 he
    replace hw := hw t5 he
    clear he
    obtain ⟨g7, hw⟩ := hw
    exact V.zret hc hr dX9_isLetter_27 g7 hw
  obtain ⟨g2, q9⟩ := q6
  refine V.icmp_lt hc (tgt := 26) dX9_isLetter_8 (by decide) g2 (by omega) (fun c10 => ?_) (fun c10 => ?_)
  · refine V.iconst hc dX9_isLetter_26 ?_
    refine V.drop (lo' := [(1, 0), (1, 0)]) ⟨Or.inl rfl, Or.inl rfl, trivial⟩ ?_
    exact kJ8 _ ⟨fun _ => rfl, (fun q => absurd c10 q)⟩
  · have q11 := q9 c10
    obtain ⟨g3, g4⟩ := q11
    refine V.aload_n (t := 9) hc dX9_isLetter_11 rfl rfl ?_
    refine V.gR hc gR_X9_27 (i' := 0) rfl dX9_isLetter_12 ?_
    refine V.iload_n hc dX9_isLetter_15 rfl rfl ?_
    refine V.ald hc ak_45 g3 dX9_isLetter_16 ?_
    refine V.bipush hc dX9_isLetter_17 (by decide) ?_
    refine V.icmp_gt hc (tgt := 26) dX9_isLetter_19 (by decide) g4 (by omega) (fun c12 => ?_) (fun c12 => ?_)
    · refine V.iconst hc dX9_isLetter_26 ?_
      refine V.drop (lo' := [(1, 0), (1, 0)]) ⟨Or.inl rfl, Or.inl rfl, trivial⟩ ?_
      exact kJ8 _ ⟨(fun q => absurd q c10), fun _ => ⟨fun _ => rfl, (fun q => absurd c12 q)⟩⟩
    · refine V.iconst hc dX9_isLetter_22 ?_
      refine V.goto hc (tgt := 27) dX9_isLetter_23 (by decide) ?_
      refine V.drop (lo' := [(1, 0), (1, 0)]) ⟨Or.inl rfl, Or.inl rfl, trivial⟩ ?_
      exact kJ8 _ ⟨(fun q => absurd q c10), fun _ => ⟨(fun q => absurd q c12), fun _ => rfl⟩⟩
theorem tX9_isWord_20 {G : GG} {p : Program} {l : Launch} {e : Jvm.Env} {s : State} {m : MethodId} {args : Array Value} {below : List Frame} {meth : Method} {c : Code} {P : Int → HP → Prop} (hc : VC G p (rmD 5 0) s m args meth c RX9 cX9_isWord 3 5) (hr : meth.sig.returnType = some .boolean) {o : Int} {s1 : Int} {K55 : HP → Prop} {K47 : HP → Prop} (hK55 : ∀  (h : HP), K55  h → V G p l e (rmD 5 0) s m args below meth c (MQ below (QI G P) args s 0 0 (va_Aof G)) 3 55 [(1, 0), (1, 0), (1, 0)] [] h 0) (hK47 : ∀  (h : HP), K47  h → V G p l e (rmD 5 0) s m args below meth c (MQ below (QI G P) args s 0 0 (va_Aof G)) 3 47 [(1, 0), (1, 0), (1, 0)] [] h 0) : ∀ (f : Nat) (l2 : Int) (h : HP), wX9_isWord_20 o s1 K55 K47 f l2 h → V G p l e (rmD 5 0) s m args below meth c (MQ below (QI G P) args s 0 0 (va_Aof G)) 3 20 [(19, o), (6, s1), (0, l2)] [] h 0 := by
  intro f
  induction f with
  | zero =>
    intro l2 h hw
    exact hw.elim
  | succ f ih =>
    intro l2 h hw
    refine V.iload_n hc dX9_isWord_20 rfl rfl ?_
    refine V.aloadS_n hc dX9_isWord_21 rfl rfl ?_
    refine V.sLen hc ml_X9_120 rfl rfl dX9_isWord_22 ?_
    obtain ⟨g4, hw⟩ := hw
    obtain ⟨g5, hw⟩ := hw
    refine V.icmp_ge hc (tgt := 55) dX9_isWord_25 (by decide) g4 g5 (fun c6 => ?_) (fun c6 => ?_)
    · replace hw := hw.1 c6
      refine V.drop (lo' := [(1, 0), (1, 0), (1, 0)]) ⟨Or.inl rfl, Or.inl rfl, Or.inl rfl, trivial⟩ ?_
      exact hK55 _ hw
    · replace hw := hw.2 c6
      refine V.aload_n (t := 9) hc dX9_isWord_28 rfl rfl ?_
      refine V.gR hc gR_X9_27 (i' := 0) rfl dX9_isWord_29 ?_
      refine V.aload_n (t := 9) hc dX9_isWord_32 rfl rfl ?_
      refine V.gI hc gI_X9_15 rfl dX9_isWord_33 ?_
      refine V.iload_n hc dX9_isWord_36 rfl rfl ?_
      refine V.iadd hc dX9_isWord_37 ?_
      obtain ⟨g7, hw⟩ := hw
      refine V.ald hc ak_45 g7 dX9_isWord_38 ?_
      refine V.aloadS_n hc dX9_isWord_39 rfl rfl ?_
      refine V.iload_n hc dX9_isWord_40 rfl rfl ?_
      obtain ⟨g8, hw⟩ := hw
      refine V.sChar hc ml_X9_125 rfl rfl g8 dX9_isWord_41 ?_
      obtain ⟨g9, hw⟩ := hw
      obtain ⟨g10, hw⟩ := hw
      refine V.icmp_eq hc (tgt := 49) dX9_isWord_44 (by decide) g9 g10 (fun c11 => ?_) (fun c11 => ?_)
      · replace hw := hw.1 c11
        refine V.iinc hc dX9_isWord_49 rfl rfl (lo' := [(19, o), (6, s1), (0, l2 + 1)]) rfl ?_
        refine V.goto hc (tgt := 20) dX9_isWord_52 (by decide) ?_
        exact ih _ _ hw
      · replace hw := hw.2 c11
        refine V.drop (lo' := [(1, 0), (1, 0), (1, 0)]) ⟨Or.inl rfl, Or.inl rfl, Or.inl rfl, trivial⟩ ?_
        exact hK47 _ hw
theorem qX9_isWord (G : GG) (l : Launch) (o : Int) (s1 : Int) (h : HP) (P : Int → HP → Prop) (hw : wX9_isWord o s1 h P) : CnI l G yX9_isWord cX9_isWord 3 (some .boolean) 5 [(19, o), (6, s1)] h P := by
  refine CnI.of (lo := [(19, o), (6, s1), (1, 0)]) (by decide) rfl rfl rfl ?_
  intro p e s m args below meth c hc hr
  have hc : VC G p (rmD 5 0) s m args meth c RX9 cX9_isWord 3 5 := hc
  refine V.aloadS_n hc dX9_isWord_0 rfl rfl ?_
  refine V.sLen hc ml_X9_120 rfl rfl dX9_isWord_1 ?_
  refine V.aload_n (t := 9) hc dX9_isWord_4 rfl rfl ?_
  refine V.gI hc gI_X9_18 rfl dX9_isWord_5 ?_
  refine V.aload_n (t := 9) hc dX9_isWord_8 rfl rfl ?_
  refine V.gI hc gI_X9_15 rfl dX9_isWord_9 ?_
  refine V.isub hc dX9_isWord_12 ?_
  obtain ⟨g1, hw⟩ := hw
  obtain ⟨g2, hw⟩ := hw
  refine V.icmp_eq hc (tgt := 18) dX9_isWord_13 (by decide) g1 g2 (fun c3 => ?_) (fun c3 => ?_)
  · replace hw := hw.1 c3
    refine V.iconst hc dX9_isWord_18 ?_
    refine V.istore_n hc dX9_isWord_19 rfl rfl (lo' := [(19, o), (6, s1), (0, 0)]) rfl ?_
    obtain ⟨f12, hw⟩ := hw
    refine tX9_isWord_20 hc hr ?_ ?_ f12 _ _ hw
    · intro h13 hw
      refine V.iconst hc dX9_isWord_55 ?_
      exact V.zret hc hr dX9_isWord_56 (by omega) hw
    · intro h14 hw
      refine V.iconst hc dX9_isWord_47 ?_
      exact V.zret hc hr dX9_isWord_48 (by omega) hw
  · replace hw := hw.2 c3
    refine V.iconst hc dX9_isWord_16 ?_
    exact V.zret hc hr dX9_isWord_17 (by omega) hw
theorem tX9_takeWord_0 {G : GG} {p : Program} {l : Launch} {e : Jvm.Env} {s : State} {m : MethodId} {args : Array Value} {below : List Frame} {meth : Method} {c : Code} {P : HP → Prop} (hc : VC G p (rmD 6 0) s m args meth c RX9 cX9_takeWord 1 6) (hr : meth.sig.returnType = none) {o : Int} {K35 : HP → Prop} (hK35 : ∀  (h : HP), K35  h → V G p l e (rmD 6 0) s m args below meth c (MQ below (QV G P) args s 0 0 (va_Aof G)) 1 35 [(19, o)] [] h 0) : ∀ (f : Nat)  (h : HP), wX9_takeWord_0 o K35 f  h → V G p l e (rmD 6 0) s m args below meth c (MQ below (QV G P) args s 0 0 (va_Aof G)) 1 0 [(19, o)] [] h 0 := by
  intro f
  induction f with
  | zero =>
    intro h hw
    exact hw.elim
  | succ f ih =>
    intro h hw
    refine V.aload_n (t := 9) hc dX9_takeWord_0 rfl rfl ?_
    refine V.gI hc gI_X9_18 rfl dX9_takeWord_1 ?_
    refine V.aload_n (t := 9) hc dX9_takeWord_4 rfl rfl ?_
    refine V.gI hc gI_X9_9 rfl dX9_takeWord_5 ?_
    obtain ⟨g1, hw⟩ := hw
    obtain ⟨g2, hw⟩ := hw
    refine V.icmp_ge hc (tgt := 35) dX9_takeWord_8 (by decide) g1 g2 (fun c3 => ?_) (fun c3 => ?_)
    · replace hw := hw.1 c3
      exact hK35 _ hw
    · replace hw := hw.2 c3
      refine V.aload_n (t := 9) hc dX9_takeWord_11 rfl rfl ?_
      refine V.aload_n (t := 9) hc dX9_takeWord_12 rfl rfl ?_
      refine V.gI hc gI_X9_18 rfl dX9_takeWord_13 ?_
      refine V.callVI hc (qX9_isLetter G l _ _ _ _ hw) mo_X9_isLetter ml_X9_91 (by rfl) rfl rfl (as := [(0, h 9 o 4)]) rfl rfl rfl rfl rfl ⟨Nat.zero_le _, Nat.zero_le _⟩ dX9_takeWord_16 (fun x5 h4 hw => ?_)
      obtain ⟨g6, hw⟩ := hw
      refine V.if_eq hc (tgt := 35) dX9_takeWord_19 (by decide) g6 (fun c7 => ?_) (fun c7 => ?_)
      · replace hw := hw.1 c7
        exact hK35 _ hw
      · replace hw := hw.2 c7
        refine V.aload_n (t := 9) hc dX9_takeWord_22 rfl rfl ?_
        refine V.dup hc dX9_takeWord_23 (by simp) ?_
        refine V.gI hc gI_X9_18 rfl dX9_takeWord_24 ?_
        refine V.iconst hc dX9_takeWord_27 ?_
        refine V.iadd hc dX9_takeWord_28 ?_
        refine V.pI hc pI_X9_18 rfl dX9_takeWord_29 (fun h8 e => ?_)
        replace hw := hw h8 e
        clear e
        refine V.goto hc (tgt := 0) dX9_takeWord_32 (by decide) ?_
        exact ih _ hw
theorem qX9_takeWord (G : GG) (l : Launch) (o : Int) (h : HP) (P : HP → Prop) (hw : wX9_takeWord o h P) : CnV l G yX9_takeWord cX9_takeWord 1 6 [(19, o)] h P := by
  refine CnV.of (lo := [(19, o)]) (by decide) rfl rfl rfl ?_
  intro p e s m args below meth c hc hr
  have hc : VC G p (rmD 6 0) s m args meth c RX9 cX9_takeWord 1 6 := hc
  obtain ⟨f9, hw⟩ := hw
  refine tX9_takeWord_0 hc hr ?_ f9 _ hw
  · intro h10 hw
    refine V.aload_n (t := 9) hc dX9_takeWord_35 rfl rfl ?_
    refine V.iconst hc dX9_takeWord_36 ?_
    refine V.pI hc pI_X9_21 rfl dX9_takeWord_37 (fun h11 e => ?_)
    replace hw := hw h11 e
    clear e
    refine V.aload_n (t := 9) hc dX9_takeWord_40 rfl rfl ?_
    refine V.aload_n (t := 9) hc dX9_takeWord_41 rfl rfl ?_
    refine V.ldcS hc sl_X9_103 rfl rfl dX9_takeWord_42 ?_
    refine V.callVI hc (qX9_isWord G l _ _ _ _ hw) mo_X9_isWord ml_X9_105 (by rfl) rfl rfl (as := [(6, 3)]) rfl rfl rfl rfl rfl ⟨Nat.zero_le _, Nat.zero_le _⟩ dX9_takeWord_44 (fun x13 h12 hw => ?_)
    obtain ⟨q16, hw⟩ := hw
    have kJ58 : ∀ t15 : Int, ((x13 = 0 → t15 = h12 9 o 5) ∧ (¬ x13 = 0 → t15 = 4)) → V G p l e (rmD 6 0) s m args below meth c (MQ below (QV G P) args s 0 0 (va_Aof G)) 1 58 [(19, o)] [(0, t15), (19, o)] h12 0 := by
      intro t15 he
      replace hw := hw t15 he
      clear he
      refine V.pI hc pI_X9_21 rfl dX9_takeWord_58 (fun h17 e => ?_)
      replace hw := hw h17 e
      clear e
      refine V.aload_n (t := 9) hc dX9_takeWord_61 rfl rfl ?_
      refine V.aload_n (t := 9) hc dX9_takeWord_62 rfl rfl ?_
      refine V.ldcS hc sl_X9_109 rfl rfl dX9_takeWord_63 ?_
      refine V.callVI hc (qX9_isWord G l _ _ _ _ hw) mo_X9_isWord ml_X9_105 (by rfl) rfl rfl (as := [(6, 4)]) rfl rfl rfl rfl rfl ⟨Nat.zero_le _, Nat.zero_le _⟩ dX9_takeWord_65 (fun x19 h18 hw => ?_)
      obtain ⟨q22, hw⟩ := hw
      have kJ56 : ∀ t21 : Int, ((x19 = 0 → t21 = h18 9 o 5) ∧ (¬ x19 = 0 → t21 = 5)) → V G p l e (rmD 6 0) s m args below meth c (MQ below (QV G P) args s 0 0 (va_Aof G)) 1 79 [(19, o)] [(0, t21), (19, o)] h18 0 := by
        intro t21 he
        replace hw := hw t21 he
        clear he
        refine V.pI hc pI_X9_21 rfl dX9_takeWord_79 (fun h23 e => ?_)
        replace hw := hw h23 e
        clear e
        refine V.aload_n (t := 9) hc dX9_takeWord_82 rfl rfl ?_
        refine V.aload_n (t := 9) hc dX9_takeWord_83 rfl rfl ?_
        refine V.ldcS hc sl_X9_111 rfl rfl dX9_takeWord_84 ?_
        refine V.callVI hc (qX9_isWord G l _ _ _ _ hw) mo_X9_isWord ml_X9_105 (by rfl) rfl rfl (as := [(6, 5)]) rfl rfl rfl rfl rfl ⟨Nat.zero_le _, Nat.zero_le _⟩ dX9_takeWord_86 (fun x25 h24 hw => ?_)
        obtain ⟨q28, hw⟩ := hw
        have kJ54 : ∀ t27 : Int, ((x25 = 0 → t27 = h24 9 o 5) ∧ (¬ x25 = 0 → t27 = 6)) → V G p l e (rmD 6 0) s m args below meth c (MQ below (QV G P) args s 0 0 (va_Aof G)) 1 101 [(19, o)] [(0, t27), (19, o)] h24 0 := by
          intro t27 he
          replace hw := hw t27 he
          clear he
          refine V.pI hc pI_X9_21 rfl dX9_takeWord_101 (fun h29 e => ?_)
          replace hw := hw h29 e
          clear e
          refine V.aload_n (t := 9) hc dX9_takeWord_104 rfl rfl ?_
          refine V.aload_n (t := 9) hc dX9_takeWord_105 rfl rfl ?_
          refine V.ldcS hc sl_X9_113 rfl rfl dX9_takeWord_106 ?_
          refine V.callVI hc (qX9_isWord G l _ _ _ _ hw) mo_X9_isWord ml_X9_105 (by rfl) rfl rfl (as := [(6, 0)]) rfl rfl rfl rfl rfl ⟨Nat.zero_le _, Nat.zero_le _⟩ dX9_takeWord_108 (fun x31 h30 hw => ?_)
          obtain ⟨q34, hw⟩ := hw
          have kJ52 : ∀ t33 : Int, ((x31 = 0 → t33 = h30 9 o 5) ∧ (¬ x31 = 0 → t33 = 7)) → V G p l e (rmD 6 0) s m args below meth c (MQ below (QV G P) args s 0 0 (va_Aof G)) 1 123 [(19, o)] [(0, t33), (19, o)] h30 0 := by
            intro t33 he
            replace hw := hw t33 he
            clear he
            refine V.pI hc pI_X9_21 rfl dX9_takeWord_123 (fun h35 e => ?_)
            replace hw := hw h35 e
            clear e
            refine V.aload_n (t := 9) hc dX9_takeWord_126 rfl rfl ?_
            refine V.aload_n (t := 9) hc dX9_takeWord_127 rfl rfl ?_
            refine V.ldcS hc sl_X9_115 rfl rfl dX9_takeWord_128 ?_
            refine V.callVI hc (qX9_isWord G l _ _ _ _ hw) mo_X9_isWord ml_X9_105 (by rfl) rfl rfl (as := [(6, 1)]) rfl rfl rfl rfl rfl ⟨Nat.zero_le _, Nat.zero_le _⟩ dX9_takeWord_130 (fun x37 h36 hw => ?_)
            obtain ⟨q40, hw⟩ := hw
            have kJ50 : ∀ t39 : Int, ((x37 = 0 → t39 = h36 9 o 5) ∧ (¬ x37 = 0 → t39 = 8)) → V G p l e (rmD 6 0) s m args below meth c (MQ below (QV G P) args s 0 0 (va_Aof G)) 1 145 [(19, o)] [(0, t39), (19, o)] h36 0 := by
              intro t39 he
              replace hw := hw t39 he
              clear he
              refine V.pI hc pI_X9_21 rfl dX9_takeWord_145 (fun h41 e => ?_)
              replace hw := hw h41 e
              clear e
              refine V.aload_n (t := 9) hc dX9_takeWord_148 rfl rfl ?_
              refine V.aload_n (t := 9) hc dX9_takeWord_149 rfl rfl ?_
              refine V.ldcS hc sl_X9_117 rfl rfl dX9_takeWord_150 ?_
              refine V.callVI hc (qX9_isWord G l _ _ _ _ hw) mo_X9_isWord ml_X9_105 (by rfl) rfl rfl (as := [(6, 2)]) rfl rfl rfl rfl rfl ⟨Nat.zero_le _, Nat.zero_le _⟩ dX9_takeWord_152 (fun x43 h42 hw => ?_)
              obtain ⟨q46, hw⟩ := hw
              have kJ48 : ∀ t45 : Int, ((x43 = 0 → t45 = h42 9 o 5) ∧ (¬ x43 = 0 → t45 = 9)) → V G p l e (rmD 6 0) s m args below meth c (MQ below (QV G P) args s 0 0 (va_Aof G)) 1 167 [(1, 0)] [(0, t45), (19, o)] h42 0 := by
                intro t45 he
                replace hw := hw t45 he
                clear he
                refine V.pI hc pI_X9_21 rfl dX9_takeWord_167 (fun h47 e => ?_)
                replace hw := hw h47 e
                clear e
                exact V.vret hc hr dX9_takeWord_170 hw
              have g44 := q46
              refine V.if_eq hc (tgt := 163) dX9_takeWord_155 (by decide) g44 (fun c49 => ?_) (fun c49 => ?_)
              · refine V.aload_n (t := 9) hc dX9_takeWord_163 rfl rfl ?_
                refine V.gI hc gI_X9_21 rfl dX9_takeWord_164 ?_
                refine V.drop (lo' := [(1, 0)]) ⟨Or.inl rfl, trivial⟩ ?_
                exact kJ48 _ ⟨fun _ => rfl, (fun q => absurd c49 q)⟩
              · refine V.bipush hc dX9_takeWord_158 (by decide) ?_
                refine V.goto hc (tgt := 167) dX9_takeWord_160 (by decide) ?_
                refine V.drop (lo' := [(1, 0)]) ⟨Or.inl rfl, trivial⟩ ?_
                exact kJ48 _ ⟨(fun q => absurd q c49), fun _ => rfl⟩
            have g38 := q40
            refine V.if_eq hc (tgt := 141) dX9_takeWord_133 (by decide) g38 (fun c51 => ?_) (fun c51 => ?_)
            · refine V.aload_n (t := 9) hc dX9_takeWord_141 rfl rfl ?_
              refine V.gI hc gI_X9_21 rfl dX9_takeWord_142 ?_
              exact kJ50 _ ⟨fun _ => rfl, (fun q => absurd c51 q)⟩
            · refine V.bipush hc dX9_takeWord_136 (by decide) ?_
              refine V.goto hc (tgt := 145) dX9_takeWord_138 (by decide) ?_
              exact kJ50 _ ⟨(fun q => absurd q c51), fun _ => rfl⟩
          have g32 := q34
          refine V.if_eq hc (tgt := 119) dX9_takeWord_111 (by decide) g32 (fun c53 => ?_) (fun c53 => ?_)
          · refine V.aload_n (t := 9) hc dX9_takeWord_119 rfl rfl ?_
            refine V.gI hc gI_X9_21 rfl dX9_takeWord_120 ?_
            exact kJ52 _ ⟨fun _ => rfl, (fun q => absurd c53 q)⟩
          · refine V.bipush hc dX9_takeWord_114 (by decide) ?_
            refine V.goto hc (tgt := 123) dX9_takeWord_116 (by decide) ?_
            exact kJ52 _ ⟨(fun q => absurd q c53), fun _ => rfl⟩
        have g26 := q28
        refine V.if_eq hc (tgt := 97) dX9_takeWord_89 (by decide) g26 (fun c55 => ?_) (fun c55 => ?_)
        · refine V.aload_n (t := 9) hc dX9_takeWord_97 rfl rfl ?_
          refine V.gI hc gI_X9_21 rfl dX9_takeWord_98 ?_
          exact kJ54 _ ⟨fun _ => rfl, (fun q => absurd c55 q)⟩
        · refine V.bipush hc dX9_takeWord_92 (by decide) ?_
          refine V.goto hc (tgt := 101) dX9_takeWord_94 (by decide) ?_
          exact kJ54 _ ⟨(fun q => absurd q c55), fun _ => rfl⟩
      have g20 := q22
      refine V.if_eq hc (tgt := 75) dX9_takeWord_68 (by decide) g20 (fun c57 => ?_) (fun c57 => ?_)
      · refine V.aload_n (t := 9) hc dX9_takeWord_75 rfl rfl ?_
        refine V.gI hc gI_X9_21 rfl dX9_takeWord_76 ?_
        exact kJ56 _ ⟨fun _ => rfl, (fun q => absurd c57 q)⟩
      · refine V.iconst hc dX9_takeWord_71 ?_
        refine V.goto hc (tgt := 79) dX9_takeWord_72 (by decide) ?_
        exact kJ56 _ ⟨(fun q => absurd q c57), fun _ => rfl⟩
    have g14 := q16
    refine V.if_eq hc (tgt := 54) dX9_takeWord_47 (by decide) g14 (fun c59 => ?_) (fun c59 => ?_)
    · refine V.aload_n (t := 9) hc dX9_takeWord_54 rfl rfl ?_
      refine V.gI hc gI_X9_21 rfl dX9_takeWord_55 ?_
      exact kJ58 _ ⟨fun _ => rfl, (fun q => absurd c59 q)⟩
    · refine V.iconst hc dX9_takeWord_50 ?_
      refine V.goto hc (tgt := 58) dX9_takeWord_51 (by decide) ?_
      exact kJ58 _ ⟨(fun q => absurd q c59), fun _ => rfl⟩
theorem qX9_isDigit (G : GG) (l : Launch) (o : Int) (a1 : Int) (h : HP) (P : Int → HP → Prop) (hw : wX9_isDigit o a1 h P) : CnI l G yX9_isDigit cX9_isDigit 2 (some .boolean) 1 [(19, o), (0, a1)] h P := by
  refine CnI.of (lo := [(19, o), (0, a1)]) (by decide) rfl rfl rfl ?_
  intro p e s m args below meth c hc hr
  have hc : VC G p (rmD 1 0) s m args meth c RX9 cX9_isDigit 2 1 := hc
  refine V.aload_n (t := 9) hc dX9_isDigit_0 rfl rfl ?_
  refine V.gR hc gR_X9_27 (i' := 0) rfl dX9_isDigit_1 ?_
  refine V.iload_n hc dX9_isDigit_4 rfl rfl ?_
  obtain ⟨g1, hw⟩ := hw
  refine V.ald hc ak_45 g1 dX9_isDigit_5 ?_
  refine V.bipush hc dX9_isDigit_6 (by decide) ?_
  obtain ⟨q6, hw⟩ := hw
  have kJ8 : ∀ t5 : Int, ((h 45 0 a1 < 48 → t5 = 0) ∧ (¬ h 45 0 a1 < 48 → ((57 < h 45 0 a1 → t5 = 0) ∧ (¬ 57 < h 45 0 a1 → t5 = 1)))) → V G p l e (rmD 1 0) s m args below meth c (MQ below (QI G P) args s 0 0 (va_Aof G)) 2 27 [(1, 0), (1, 0)] [(0, t5)] h 0 := by
    intro t5 he
    replace hw := hw t5 he
    clear he
    obtain ⟨g7, hw⟩ := hw
    exact V.zret hc hr dX9_isDigit_27 g7 hw
  obtain ⟨g2, q9⟩ := q6
  refine V.icmp_lt hc (tgt := 26) dX9_isDigit_8 (by decide) g2 (by omega) (fun c10 => ?_) (fun c10 => ?_)
  · refine V.iconst hc dX9_isDigit_26 ?_
    refine V.drop (lo' := [(1, 0), (1, 0)]) ⟨Or.inl rfl, Or.inl rfl, trivial⟩ ?_
    exact kJ8 _ ⟨fun _ => rfl, (fun q => absurd c10 q)⟩
  · have q11 := q9 c10
    obtain ⟨g3, g4⟩ := q11
    refine V.aload_n (t := 9) hc dX9_isDigit_11 rfl rfl ?_
    refine V.gR hc gR_X9_27 (i' := 0) rfl dX9_isDigit_12 ?_
    refine V.iload_n hc dX9_isDigit_15 rfl rfl ?_
    refine V.ald hc ak_45 g3 dX9_isDigit_16 ?_
    refine V.bipush hc dX9_isDigit_17 (by decide) ?_
    refine V.icmp_gt hc (tgt := 26) dX9_isDigit_19 (by decide) g4 (by omega) (fun c12 => ?_) (fun c12 => ?_)
    · refine V.iconst hc dX9_isDigit_26 ?_
      refine V.drop (lo' := [(1, 0), (1, 0)]) ⟨Or.inl rfl, Or.inl rfl, trivial⟩ ?_
      exact kJ8 _ ⟨(fun q => absurd q c10), fun _ => ⟨fun _ => rfl, (fun q => absurd c12 q)⟩⟩
    · refine V.iconst hc dX9_isDigit_22 ?_
      refine V.goto hc (tgt := 27) dX9_isDigit_23 (by decide) ?_
      refine V.drop (lo' := [(1, 0), (1, 0)]) ⟨Or.inl rfl, Or.inl rfl, trivial⟩ ?_
      exact kJ8 _ ⟨(fun q => absurd q c10), fun _ => ⟨(fun q => absurd q c12), fun _ => rfl⟩⟩
