theorem tX12_goOn_2 {G : GG} {p : Program} {l : Launch} {e : Jvm.Env} {s : State} {m : MethodId} {args : Array Value} {below : List Frame} {meth : Method} {c : Code} {P : HP → Prop} (hc : VC G p (rmD 40 0) s m args meth c RX12 cX12_goOn 3 40) (hr : meth.sig.returnType = none) {o : Int} {a1 : Int} {K17 : HP → Prop} (hK17 : ∀  (h : HP), K17  h → V G p l e (rmD 40 0) s m args below meth c (MQ below (QV G P) args s 0 0 (va_Aof G)) 3 17 [(1, 0), (1, 0), (1, 0)] [] h 0) : ∀ (f : Nat) (l2 : Int) (h : HP), wX12_goOn_2 o a1 K17 f l2 h → V G p l e (rmD 40 0) s m args below meth c (MQ below (QV G P) args s 0 0 (va_Aof G)) 3 2 [(22, o), (0, a1), (0, l2)] [] h 0 := by
  intro f
  induction f with
  | zero =>
    intro l2 h hw
    exact hw.elim
  | succ f ih =>
    intro l2 h hw
    refine V.iload_n hc dX12_goOn_2 rfl rfl ?_
    refine V.iload_n hc dX12_goOn_3 rfl rfl ?_
    obtain ⟨g1, hw⟩ := hw
    obtain ⟨g2, hw⟩ := hw
    refine V.icmp_ge hc (tgt := 17) dX12_goOn_4 (by decide) g1 g2 (fun c3 => ?_) (fun c3 => ?_)
    · replace hw := hw.1 c3
      refine V.drop (lo' := [(1, 0), (1, 0), (1, 0)]) ⟨Or.inl rfl, Or.inl rfl, Or.inl rfl, trivial⟩ ?_
      exact hK17 _ hw
    · replace hw := hw.2 c3
      refine V.aload_n (t := 12) hc dX12_goOn_7 rfl rfl ?_
      refine V.callVV hc (qX12_unit G l _ _ _ hw) mo_X12_unit ml_X12_341 (by rfl) rfl rfl (as := []) rfl rfl rfl rfl rfl ⟨Nat.zero_le _, Nat.zero_le _⟩ dX12_goOn_8 (fun h4 hw => ?_)
      refine V.iinc hc dX12_goOn_11 rfl rfl (lo' := [(22, o), (0, a1), (0, l2 + 1)]) rfl ?_
      refine V.goto hc (tgt := 2) dX12_goOn_14 (by decide) ?_
      exact ih _ _ hw
theorem qX12_goOn (G : GG) (l : Launch) (o : Int) (a1 : Int) (h : HP) (P : HP → Prop) (hw : wX12_goOn o a1 h P) : CnV l G yX12_goOn cX12_goOn 3 40 [(22, o), (0, a1)] h P := by
  refine CnV.of (lo := [(22, o), (0, a1), (1, 0)]) (by decide) rfl rfl rfl ?_
  intro p e s m args below meth c hc hr
  have hc : VC G p (rmD 40 0) s m args meth c RX12 cX12_goOn 3 40 := hc
  refine V.iconst hc dX12_goOn_0 ?_
  refine V.istore_n hc dX12_goOn_1 rfl rfl (lo' := [(22, o), (0, a1), (0, 0)]) rfl ?_
  obtain ⟨f5, hw⟩ := hw
  refine tX12_goOn_2 hc hr ?_ f5 _ _ hw
  · intro h6 hw
    exact V.vret hc hr dX12_goOn_17 hw
theorem tX12_packetsNow_4 {G : GG} {p : Program} {l : Launch} {e : Jvm.Env} {s : State} {m : MethodId} {args : Array Value} {below : List Frame} {meth : Method} {c : Code} {P : Int → HP → Prop} (hc : VC G p (rmD 8 0) s m args meth c RX12 cX12_packetsNow 3 8) (hr : meth.sig.returnType = some .int) {o : Int} {h : HP} {K36 : Int → Prop} (hK36 : ∀ (x1 : Int), K36 x1 → V G p l e (rmD 8 0) s m args below meth c (MQ below (QI G P) args s 0 0 (va_Aof G)) 3 36 [(1, 0), (0, x1), (1, 0)] [] h 0) : ∀ (f : Nat) (l1 : Int) (l2 : Int), wX12_packetsNow_4 o h K36 f l1 l2 → V G p l e (rmD 8 0) s m args below meth c (MQ below (QI G P) args s 0 0 (va_Aof G)) 3 4 [(22, o), (0, l1), (0, l2)] [] h 0 := by
  intro f
  induction f with
  | zero =>
    intro l1 l2 hw
    exact hw.elim
  | succ f ih =>
    intro l1 l2 hw
    refine V.iload_n hc dX12_packetsNow_4 rfl rfl ?_
    refine V.aload_n (t := 12) hc dX12_packetsNow_5 rfl rfl ?_
    refine V.gR hc gR_X12_21 (i' := o) rfl dX12_packetsNow_6 ?_
    refine V.iconst hc dX12_packetsNow_9 ?_
    refine V.ald hc ak_49 (by omega) dX12_packetsNow_10 ?_
    obtain ⟨g1, hw⟩ := hw
    obtain ⟨g2, hw⟩ := hw
    refine V.icmp_ge hc (tgt := 36) dX12_packetsNow_11 (by decide) g1 g2 (fun c3 => ?_) (fun c3 => ?_)
    · replace hw := hw.1 c3
      refine V.drop (lo' := [(1, 0), (0, l1), (1, 0)]) ⟨Or.inl rfl, Or.inr rfl, Or.inl rfl, trivial⟩ ?_
      exact hK36 _ hw
    · replace hw := hw.2 c3
      refine V.iload_n hc dX12_packetsNow_14 rfl rfl ?_
      refine V.aload_n (t := 12) hc dX12_packetsNow_15 rfl rfl ?_
      refine V.gR hc gR_X12_43 (i' := o) rfl dX12_packetsNow_16 ?_
      refine V.sipush hc dX12_packetsNow_19 (by decide) ?_
      refine V.iload_n hc dX12_packetsNow_22 rfl rfl ?_
      refine V.imul hc dX12_packetsNow_23 ?_
      refine V.bipush hc dX12_packetsNow_24 (by decide) ?_
      refine V.iadd hc dX12_packetsNow_26 ?_
      obtain ⟨g4, hw⟩ := hw
      refine V.ald hc ak_56 g4 dX12_packetsNow_27 ?_
      refine V.iadd hc dX12_packetsNow_28 ?_
      refine V.istore_n hc dX12_packetsNow_29 rfl rfl (lo' := [(22, o), (0, l1 + (h 56 o ((257 * l2) + 17))), (0, l2)]) rfl ?_
      refine V.iinc hc dX12_packetsNow_30 rfl rfl (lo' := [(22, o), (0, l1 + (h 56 o ((257 * l2) + 17))), (0, l2 + 1)]) rfl ?_
      refine V.goto hc (tgt := 4) dX12_packetsNow_33 (by decide) ?_
      exact ih _ _ hw
theorem qX12_packetsNow (G : GG) (l : Launch) (o : Int) (h : HP) (P : Int → HP → Prop) (hw : wX12_packetsNow o h P) : CnI l G yX12_packetsNow cX12_packetsNow 3 (some .int) 8 [(22, o)] h P := by
  refine CnI.of (lo := [(22, o), (1, 0), (1, 0)]) (by decide) rfl rfl rfl ?_
  intro p e s m args below meth c hc hr
  have hc : VC G p (rmD 8 0) s m args meth c RX12 cX12_packetsNow 3 8 := hc
  refine V.iconst hc dX12_packetsNow_0 ?_
  refine V.istore_n hc dX12_packetsNow_1 rfl rfl (lo' := [(22, o), (0, 0), (1, 0)]) rfl ?_
  refine V.iconst hc dX12_packetsNow_2 ?_
  refine V.istore_n hc dX12_packetsNow_3 rfl rfl (lo' := [(22, o), (0, 0), (0, 0)]) rfl ?_
  obtain ⟨f5, hw⟩ := hw
  refine tX12_packetsNow_4 hc hr ?_ f5 _ _ hw
  · intro l6 hw
    refine V.iload_n hc dX12_packetsNow_36 rfl rfl ?_
    exact V.iret hc hr dX12_packetsNow_37 hw
theorem tX12_activeLeaves_4 {G : GG} {p : Program} {l : Launch} {e : Jvm.Env} {s : State} {m : MethodId} {args : Array Value} {below : List Frame} {meth : Method} {c : Code} {P : Int → HP → Prop} (hc : VC G p (rmD 8 0) s m args meth c RX12 cX12_activeLeaves 3 8) (hr : meth.sig.returnType = some .int) {o : Int} {h : HP} {K44 : Int → Prop} (hK44 : ∀ (x1 : Int), K44 x1 → V G p l e (rmD 8 0) s m args below meth c (MQ below (QI G P) args s 0 0 (va_Aof G)) 3 44 [(1, 0), (0, x1), (1, 0)] [] h 0) : ∀ (f : Nat) (l1 : Int) (l2 : Int), wX12_activeLeaves_4 o h K44 f l1 l2 → V G p l e (rmD 8 0) s m args below meth c (MQ below (QI G P) args s 0 0 (va_Aof G)) 3 4 [(22, o), (0, l1), (0, l2)] [] h 0 := by
  intro f
  induction f with
  | zero =>
    intro l1 l2 hw
    exact hw.elim
  | succ f ih =>
    intro l1 l2 hw
    refine V.iload_n hc dX12_activeLeaves_4 rfl rfl ?_
    refine V.aload_n (t := 12) hc dX12_activeLeaves_5 rfl rfl ?_
    refine V.gR hc gR_X12_21 (i' := o) rfl dX12_activeLeaves_6 ?_
    refine V.iconst hc dX12_activeLeaves_9 ?_
    refine V.ald hc ak_49 (by omega) dX12_activeLeaves_10 ?_
    obtain ⟨g1, hw⟩ := hw
    obtain ⟨g2, hw⟩ := hw
    refine V.icmp_ge hc (tgt := 44) dX12_activeLeaves_11 (by decide) g1 g2 (fun c3 => ?_) (fun c3 => ?_)
    · replace hw := hw.1 c3
      refine V.drop (lo' := [(1, 0), (0, l1), (1, 0)]) ⟨Or.inl rfl, Or.inr rfl, Or.inl rfl, trivial⟩ ?_
      exact hK44 _ hw
    · replace hw := hw.2 c3
      refine V.iload_n hc dX12_activeLeaves_14 rfl rfl ?_
      refine V.aload_n (t := 12) hc dX12_activeLeaves_15 rfl rfl ?_
      refine V.gR hc gR_X12_43 (i' := o) rfl dX12_activeLeaves_16 ?_
      refine V.sipush hc dX12_activeLeaves_19 (by decide) ?_
      refine V.iload_n hc dX12_activeLeaves_22 rfl rfl ?_
      refine V.imul hc dX12_activeLeaves_23 ?_
      refine V.bipush hc dX12_activeLeaves_24 (by decide) ?_
      refine V.iadd hc dX12_activeLeaves_26 ?_
      obtain ⟨g4, hw⟩ := hw
      refine V.ald hc ak_56 g4 dX12_activeLeaves_27 ?_
      obtain ⟨q7, hw⟩ := hw
      have kJ8 : ∀ t6 : Int, ((h 56 o ((257 * l2) + 17) ≤ 0 → t6 = 0) ∧ (¬ h 56 o ((257 * l2) + 17) ≤ 0 → t6 = 1)) → V G p l e (rmD 8 0) s m args below meth c (MQ below (QI G P) args s 0 0 (va_Aof G)) 3 36 [(22, o), (1, 0), (0, l2)] [(0, t6), (0, l1)] h 0 := by
        intro t6 he
        replace hw := hw t6 he
        clear he
        refine V.iadd hc dX12_activeLeaves_36 ?_
        refine V.istore_n hc dX12_activeLeaves_37 rfl rfl (lo' := [(22, o), (0, l1 + t6), (0, l2)]) rfl ?_
        refine V.iinc hc dX12_activeLeaves_38 rfl rfl (lo' := [(22, o), (0, l1 + t6), (0, l2 + 1)]) rfl ?_
        refine V.goto hc (tgt := 4) dX12_activeLeaves_41 (by decide) ?_
        exact ih _ _ hw
      have g5 := q7
      refine V.if_le hc (tgt := 35) dX12_activeLeaves_28 (by decide) g5 (fun c9 => ?_) (fun c9 => ?_)
      · refine V.iconst hc dX12_activeLeaves_35 ?_
        refine V.drop (lo' := [(22, o), (1, 0), (0, l2)]) ⟨Or.inr rfl, Or.inl rfl, Or.inr rfl, trivial⟩ ?_
        exact kJ8 _ ⟨fun _ => rfl, (fun q => absurd c9 q)⟩
      · refine V.iconst hc dX12_activeLeaves_31 ?_
        refine V.goto hc (tgt := 36) dX12_activeLeaves_32 (by decide) ?_
        refine V.drop (lo' := [(22, o), (1, 0), (0, l2)]) ⟨Or.inr rfl, Or.inl rfl, Or.inr rfl, trivial⟩ ?_
        exact kJ8 _ ⟨(fun q => absurd q c9), fun _ => rfl⟩
theorem qX12_activeLeaves (G : GG) (l : Launch) (o : Int) (h : HP) (P : Int → HP → Prop) (hw : wX12_activeLeaves o h P) : CnI l G yX12_activeLeaves cX12_activeLeaves 3 (some .int) 8 [(22, o)] h P := by
  refine CnI.of (lo := [(22, o), (1, 0), (1, 0)]) (by decide) rfl rfl rfl ?_
  intro p e s m args below meth c hc hr
  have hc : VC G p (rmD 8 0) s m args meth c RX12 cX12_activeLeaves 3 8 := hc
  refine V.iconst hc dX12_activeLeaves_0 ?_
  refine V.istore_n hc dX12_activeLeaves_1 rfl rfl (lo' := [(22, o), (0, 0), (1, 0)]) rfl ?_
  refine V.iconst hc dX12_activeLeaves_2 ?_
  refine V.istore_n hc dX12_activeLeaves_3 rfl rfl (lo' := [(22, o), (0, 0), (0, 0)]) rfl ?_
  obtain ⟨f10, hw⟩ := hw
  refine tX12_activeLeaves_4 hc hr ?_ f10 _ _ hw
  · intro l11 hw
    refine V.iload_n hc dX12_activeLeaves_44 rfl rfl ?_
    exact V.iret hc hr dX12_activeLeaves_45 hw
theorem tX12_lostNow_4 {G : GG} {p : Program} {l : Launch} {e : Jvm.Env} {s : State} {m : MethodId} {args : Array Value} {below : List Frame} {meth : Method} {c : Code} {P : Int → HP → Prop} (hc : VC G p (rmD 8 0) s m args meth c RX12 cX12_lostNow 3 8) (hr : meth.sig.returnType = some .int) {o : Int} {h : HP} {K36 : Int → Prop} (hK36 : ∀ (x1 : Int), K36 x1 → V G p l e (rmD 8 0) s m args below meth c (MQ below (QI G P) args s 0 0 (va_Aof G)) 3 36 [(1, 0), (0, x1), (1, 0)] [] h 0) : ∀ (f : Nat) (l1 : Int) (l2 : Int), wX12_lostNow_4 o h K36 f l1 l2 → V G p l e (rmD 8 0) s m args below meth c (MQ below (QI G P) args s 0 0 (va_Aof G)) 3 4 [(22, o), (0, l1), (0, l2)] [] h 0 := by
  intro f
  induction f with
  | zero =>
    intro l1 l2 hw
    exact hw.elim
  | succ f ih =>
    intro l1 l2 hw
    refine V.iload_n hc dX12_lostNow_4 rfl rfl ?_
    refine V.aload_n (t := 12) hc dX12_lostNow_5 rfl rfl ?_
    refine V.gR hc gR_X12_21 (i' := o) rfl dX12_lostNow_6 ?_
    refine V.iconst hc dX12_lostNow_9 ?_
    refine V.ald hc ak_49 (by omega) dX12_lostNow_10 ?_
    obtain ⟨g1, hw⟩ := hw
    obtain ⟨g2, hw⟩ := hw
    refine V.icmp_ge hc (tgt := 36) dX12_lostNow_11 (by decide) g1 g2 (fun c3 => ?_) (fun c3 => ?_)
    · replace hw := hw.1 c3
      refine V.drop (lo' := [(1, 0), (0, l1), (1, 0)]) ⟨Or.inl rfl, Or.inr rfl, Or.inl rfl, trivial⟩ ?_
      exact hK36 _ hw
    · replace hw := hw.2 c3
      refine V.iload_n hc dX12_lostNow_14 rfl rfl ?_
      refine V.aload_n (t := 12) hc dX12_lostNow_15 rfl rfl ?_
      refine V.gR hc gR_X12_43 (i' := o) rfl dX12_lostNow_16 ?_
      refine V.sipush hc dX12_lostNow_19 (by decide) ?_
      refine V.iload_n hc dX12_lostNow_22 rfl rfl ?_
      refine V.imul hc dX12_lostNow_23 ?_
      refine V.bipush hc dX12_lostNow_24 (by decide) ?_
      refine V.iadd hc dX12_lostNow_26 ?_
      obtain ⟨g4, hw⟩ := hw
      refine V.ald hc ak_56 g4 dX12_lostNow_27 ?_
      refine V.iadd hc dX12_lostNow_28 ?_
      refine V.istore_n hc dX12_lostNow_29 rfl rfl (lo' := [(22, o), (0, l1 + (h 56 o ((257 * l2) + 16))), (0, l2)]) rfl ?_
      refine V.iinc hc dX12_lostNow_30 rfl rfl (lo' := [(22, o), (0, l1 + (h 56 o ((257 * l2) + 16))), (0, l2 + 1)]) rfl ?_
      refine V.goto hc (tgt := 4) dX12_lostNow_33 (by decide) ?_
      exact ih _ _ hw
theorem qX12_lostNow (G : GG) (l : Launch) (o : Int) (h : HP) (P : Int → HP → Prop) (hw : wX12_lostNow o h P) : CnI l G yX12_lostNow cX12_lostNow 3 (some .int) 8 [(22, o)] h P := by
  refine CnI.of (lo := [(22, o), (1, 0), (1, 0)]) (by decide) rfl rfl rfl ?_
  intro p e s m args below meth c hc hr
  have hc : VC G p (rmD 8 0) s m args meth c RX12 cX12_lostNow 3 8 := hc
  refine V.iconst hc dX12_lostNow_0 ?_
  refine V.istore_n hc dX12_lostNow_1 rfl rfl (lo' := [(22, o), (0, 0), (1, 0)]) rfl ?_
  refine V.iconst hc dX12_lostNow_2 ?_
  refine V.istore_n hc dX12_lostNow_3 rfl rfl (lo' := [(22, o), (0, 0), (0, 0)]) rfl ?_
  obtain ⟨f5, hw⟩ := hw
  refine tX12_lostNow_4 hc hr ?_ f5 _ _ hw
  · intro l6 hw
    refine V.iload_n hc dX12_lostNow_36 rfl rfl ?_
    exact V.iret hc hr dX12_lostNow_37 hw
theorem tX12_sentNow_4 {G : GG} {p : Program} {l : Launch} {e : Jvm.Env} {s : State} {m : MethodId} {args : Array Value} {below : List Frame} {meth : Method} {c : Code} {P : Int → HP → Prop} (hc : VC G p (rmD 8 0) s m args meth c RX12 cX12_sentNow 3 8) (hr : meth.sig.returnType = some .int) {o : Int} {h : HP} {K50 : Int → Prop} (hK50 : ∀ (x1 : Int), K50 x1 → V G p l e (rmD 8 0) s m args below meth c (MQ below (QI G P) args s 0 0 (va_Aof G)) 3 50 [(1, 0), (0, x1), (1, 0)] [] h 0) : ∀ (f : Nat) (l1 : Int) (l2 : Int), wX12_sentNow_4 o h K50 f l1 l2 → V G p l e (rmD 8 0) s m args below meth c (MQ below (QI G P) args s 0 0 (va_Aof G)) 3 4 [(22, o), (0, l1), (0, l2)] [] h 0 := by
  intro f
  induction f with
  | zero =>
    intro l1 l2 hw
    exact hw.elim
  | succ f ih =>
    intro l1 l2 hw
    refine V.iload_n hc dX12_sentNow_4 rfl rfl ?_
    refine V.aload_n (t := 12) hc dX12_sentNow_5 rfl rfl ?_
    refine V.gR hc gR_X12_21 (i' := o) rfl dX12_sentNow_6 ?_
    refine V.iconst hc dX12_sentNow_9 ?_
    refine V.ald hc ak_49 (by omega) dX12_sentNow_10 ?_
    obtain ⟨g1, hw⟩ := hw
    obtain ⟨g2, hw⟩ := hw
    refine V.icmp_ge hc (tgt := 50) dX12_sentNow_11 (by decide) g1 g2 (fun c3 => ?_) (fun c3 => ?_)
    · replace hw := hw.1 c3
      refine V.drop (lo' := [(1, 0), (0, l1), (1, 0)]) ⟨Or.inl rfl, Or.inr rfl, Or.inl rfl, trivial⟩ ?_
      exact hK50 _ hw
    · replace hw := hw.2 c3
      refine V.iload_n hc dX12_sentNow_14 rfl rfl ?_
      refine V.aload_n (t := 12) hc dX12_sentNow_15 rfl rfl ?_
      refine V.gR hc gR_X12_25 (i' := o) rfl dX12_sentNow_16 ?_
      refine V.iload_n hc dX12_sentNow_19 rfl rfl ?_
      obtain ⟨g4, hw⟩ := hw
      refine V.ald hc ak_50 g4 dX12_sentNow_20 ?_
      refine V.iconst hc dX12_sentNow_21 ?_
      obtain ⟨q8, hw⟩ := hw
      have kJ9 : ∀ t7 : Int, ((¬ h 50 o l2 = (-1) → t7 = 0) ∧ (h 50 o l2 = (-1) → t7 = h 56 o ((257 * l2) + 12))) → V G p l e (rmD 8 0) s m args below meth c (MQ below (QI G P) args s 0 0 (va_Aof G)) 3 42 [(22, o), (1, 0), (0, l2)] [(0, t7), (0, l1)] h 0 := by
        intro t7 he
        replace hw := hw t7 he
        clear he
        refine V.iadd hc dX12_sentNow_42 ?_
        refine V.istore_n hc dX12_sentNow_43 rfl rfl (lo' := [(22, o), (0, l1 + t7), (0, l2)]) rfl ?_
        refine V.iinc hc dX12_sentNow_44 rfl rfl (lo' := [(22, o), (0, l1 + t7), (0, l2 + 1)]) rfl ?_
        refine V.goto hc (tgt := 4) dX12_sentNow_47 (by decide) ?_
        exact ih _ _ hw
      obtain ⟨g5, q10⟩ := q8
      refine V.icmp_ne hc (tgt := 41) dX12_sentNow_22 (by decide) g5 (by omega) (fun c11 => ?_) (fun c11 => ?_)
      · refine V.iconst hc dX12_sentNow_41 ?_
        refine V.drop (lo' := [(22, o), (1, 0), (0, l2)]) ⟨Or.inr rfl, Or.inl rfl, Or.inr rfl, trivial⟩ ?_
        exact kJ9 _ ⟨fun _ => rfl, (fun q => absurd q c11)⟩
      · have q12 := q10 c11
        have g6 := q12
        refine V.aload_n (t := 12) hc dX12_sentNow_25 rfl rfl ?_
        refine V.gR hc gR_X12_43 (i' := o) rfl dX12_sentNow_26 ?_
        refine V.sipush hc dX12_sentNow_29 (by decide) ?_
        refine V.iload_n hc dX12_sentNow_32 rfl rfl ?_
        refine V.imul hc dX12_sentNow_33 ?_
        refine V.bipush hc dX12_sentNow_34 (by decide) ?_
        refine V.iadd hc dX12_sentNow_36 ?_
        refine V.ald hc ak_56 g6 dX12_sentNow_37 ?_
        refine V.goto hc (tgt := 42) dX12_sentNow_38 (by decide) ?_
        refine V.drop (lo' := [(22, o), (1, 0), (0, l2)]) ⟨Or.inr rfl, Or.inl rfl, Or.inr rfl, trivial⟩ ?_
        exact kJ9 _ ⟨(fun q => absurd c11 q), fun _ => rfl⟩
theorem qX12_sentNow (G : GG) (l : Launch) (o : Int) (h : HP) (P : Int → HP → Prop) (hw : wX12_sentNow o h P) : CnI l G yX12_sentNow cX12_sentNow 3 (some .int) 8 [(22, o)] h P := by
  refine CnI.of (lo := [(22, o), (1, 0), (1, 0)]) (by decide) rfl rfl rfl ?_
  intro p e s m args below meth c hc hr
  have hc : VC G p (rmD 8 0) s m args meth c RX12 cX12_sentNow 3 8 := hc
  refine V.iconst hc dX12_sentNow_0 ?_
  refine V.istore_n hc dX12_sentNow_1 rfl rfl (lo' := [(22, o), (0, 0), (1, 0)]) rfl ?_
  refine V.iconst hc dX12_sentNow_2 ?_
  refine V.istore_n hc dX12_sentNow_3 rfl rfl (lo' := [(22, o), (0, 0), (0, 0)]) rfl ?_
  obtain ⟨f13, hw⟩ := hw
  refine tX12_sentNow_4 hc hr ?_ f13 _ _ hw
  · intro l14 hw
    refine V.iload_n hc dX12_sentNow_50 rfl rfl ?_
    exact V.iret hc hr dX12_sentNow_51 hw
theorem qX12_count (G : GG) (l : Launch) (o : Int) (a1 : Int) (h : HP) (P : Int → HP → Prop) (hw : wX12_count o a1 h P) : CnI l G yX12_count cX12_count 2 (some .int) 9 [(22, o), (0, a1)] h P := by
  refine CnI.of (lo := [(22, o), (0, a1)]) (by decide) rfl rfl rfl ?_
  intro p e s m args below meth c hc hr
  have hc : VC G p (rmD 9 0) s m args meth c RX12 cX12_count 2 9 := hc
  refine V.aload_n (t := 12) hc dX12_count_0 rfl rfl ?_
  refine V.iconst hc dX12_count_1 ?_
  refine V.pI hc pI_X12_118 rfl dX12_count_2 (fun h1 e => ?_)
  replace hw := hw h1 e
  clear e
  refine V.iload_n hc dX12_count_5 rfl rfl ?_
  obtain ⟨g2, hw⟩ := hw
  by_cases c3 : a1 = 0
  · replace hw := hw.1 c3
    refine V.tswIn hc 0 c3 (by decide) (by decide) (by decide) (tgt := 92) dX12_count_6 rfl (by decide) ?_
    refine V.aload_n (t := 12) hc dX12_count_92 rfl rfl ?_
    refine V.gR hc gR_X12_21 (i' := o) rfl dX12_count_93 ?_
    refine V.iload_n hc dX12_count_96 rfl rfl ?_
    obtain ⟨g4, hw⟩ := hw
    refine V.ald hc ak_49 g4 dX12_count_97 ?_
    exact V.iret hc hr dX12_count_98 hw
  replace hw := hw.2 c3
  by_cases c5 : a1 = 1
  · replace hw := hw.1 c5
    refine V.tswIn hc 1 c5 (by decide) (by decide) (by decide) (tgt := 92) dX12_count_6 rfl (by decide) ?_
    refine V.aload_n (t := 12) hc dX12_count_92 rfl rfl ?_
    refine V.gR hc gR_X12_21 (i' := o) rfl dX12_count_93 ?_
    refine V.iload_n hc dX12_count_96 rfl rfl ?_
    obtain ⟨g6, hw⟩ := hw
    refine V.ald hc ak_49 g6 dX12_count_97 ?_
    exact V.iret hc hr dX12_count_98 hw
  replace hw := hw.2 c5
  by_cases c7 : a1 = 2
  · replace hw := hw.1 c7
    refine V.tswIn hc 2 c7 (by decide) (by decide) (by decide) (tgt := 99) dX12_count_6 rfl (by decide) ?_
    refine V.aload_n (t := 12) hc dX12_count_99 rfl rfl ?_
    refine V.gR hc gR_X12_43 (i' := o) rfl dX12_count_100 ?_
    refine V.sipush hc dX12_count_103 (by decide) ?_
    refine V.ald hc ak_56 (by omega) dX12_count_106 ?_
    exact V.iret hc hr dX12_count_107 hw
  replace hw := hw.2 c7
  by_cases c8 : a1 = 3
  · replace hw := hw.1 c8
    refine V.tswIn hc 3 c8 (by decide) (by decide) (by decide) (tgt := 108) dX12_count_6 rfl (by decide) ?_
    refine V.aload_n (t := 12) hc dX12_count_108 rfl rfl ?_
    refine V.gR hc gR_X12_43 (i' := o) rfl dX12_count_109 ?_
    refine V.sipush hc dX12_count_112 (by decide) ?_
    refine V.ald hc ak_56 (by omega) dX12_count_115 ?_
    exact V.iret hc hr dX12_count_116 hw
  replace hw := hw.2 c8
  by_cases c9 : a1 = 4
  · replace hw := hw.1 c9
    refine V.tswIn hc 4 c9 (by decide) (by decide) (by decide) (tgt := 117) dX12_count_6 rfl (by decide) ?_
    refine V.aload_n (t := 12) hc dX12_count_117 rfl rfl ?_
    refine V.callVI hc (qX12_activeLeaves G l _ _ _ hw) mo_X12_activeLeaves ml_X12_344 (by rfl) rfl rfl (as := []) rfl rfl rfl rfl rfl ⟨Nat.zero_le _, Nat.zero_le _⟩ dX12_count_118 (fun x11 h10 hw => ?_)
    exact V.iret hc hr dX12_count_121 hw
  replace hw := hw.2 c9
  by_cases c12 : a1 = 5
  · replace hw := hw.1 c12
    refine V.tswIn hc 5 c12 (by decide) (by decide) (by decide) (tgt := 122) dX12_count_6 rfl (by decide) ?_
    refine V.aload_n (t := 12) hc dX12_count_122 rfl rfl ?_
    refine V.callVI hc (qX12_packetsNow G l _ _ _ hw) mo_X12_packetsNow ml_X12_347 (by rfl) rfl rfl (as := []) rfl rfl rfl rfl rfl ⟨Nat.zero_le _, Nat.zero_le _⟩ dX12_count_123 (fun x14 h13 hw => ?_)
    exact V.iret hc hr dX12_count_126 hw
  replace hw := hw.2 c12
  by_cases c15 : a1 = 6
  · replace hw := hw.1 c15
    refine V.tswIn hc 6 c15 (by decide) (by decide) (by decide) (tgt := 127) dX12_count_6 rfl (by decide) ?_
    refine V.aload_n (t := 12) hc dX12_count_127 rfl rfl ?_
    refine V.gR hc gR_X12_43 (i' := o) rfl dX12_count_128 ?_
    refine V.sipush hc dX12_count_131 (by decide) ?_
    refine V.ald hc ak_56 (by omega) dX12_count_134 ?_
    exact V.iret hc hr dX12_count_135 hw
  replace hw := hw.2 c15
  by_cases c16 : a1 = 7
  · replace hw := hw.1 c16
    refine V.tswIn hc 7 c16 (by decide) (by decide) (by decide) (tgt := 136) dX12_count_6 rfl (by decide) ?_
    refine V.aload_n (t := 12) hc dX12_count_136 rfl rfl ?_
    refine V.gR hc gR_X12_43 (i' := o) rfl dX12_count_137 ?_
    refine V.sipush hc dX12_count_140 (by decide) ?_
    refine V.ald hc ak_56 (by omega) dX12_count_143 ?_
    exact V.iret hc hr dX12_count_144 hw
  replace hw := hw.2 c16
  by_cases c17 : a1 = 8
  · replace hw := hw.1 c17
    refine V.tswIn hc 8 c17 (by decide) (by decide) (by decide) (tgt := 145) dX12_count_6 rfl (by decide) ?_
    refine V.aload_n (t := 12) hc dX12_count_145 rfl rfl ?_
    refine V.callVI hc (qX12_lostNow G l _ _ _ hw) mo_X12_lostNow ml_X12_350 (by rfl) rfl rfl (as := []) rfl rfl rfl rfl rfl ⟨Nat.zero_le _, Nat.zero_le _⟩ dX12_count_146 (fun x19 h18 hw => ?_)
    exact V.iret hc hr dX12_count_149 hw
  replace hw := hw.2 c17
  by_cases c20 : a1 = 9
  · replace hw := hw.1 c20
    refine V.tswIn hc 9 c20 (by decide) (by decide) (by decide) (tgt := 150) dX12_count_6 rfl (by decide) ?_
    refine V.aload_n (t := 12) hc dX12_count_150 rfl rfl ?_
    refine V.gR hc gR_X12_43 (i' := o) rfl dX12_count_151 ?_
    refine V.sipush hc dX12_count_154 (by decide) ?_
    refine V.ald hc ak_56 (by omega) dX12_count_157 ?_
    exact V.iret hc hr dX12_count_158 hw
  replace hw := hw.2 c20
  by_cases c21 : a1 = 10
  · replace hw := hw.1 c21
    refine V.tswIn hc 10 c21 (by decide) (by decide) (by decide) (tgt := 159) dX12_count_6 rfl (by decide) ?_
    refine V.aload_n (t := 12) hc dX12_count_159 rfl rfl ?_
    refine V.callVI hc (qX12_sentNow G l _ _ _ hw) mo_X12_sentNow ml_X12_353 (by rfl) rfl rfl (as := []) rfl rfl rfl rfl rfl ⟨Nat.zero_le _, Nat.zero_le _⟩ dX12_count_160 (fun x23 h22 hw => ?_)
    exact V.iret hc hr dX12_count_163 hw
  replace hw := hw.2 c21
  by_cases c24 : a1 = 11
  · replace hw := hw.1 c24
    refine V.tswIn hc 11 c24 (by decide) (by decide) (by decide) (tgt := 164) dX12_count_6 rfl (by decide) ?_
    refine V.aload_n (t := 12) hc dX12_count_164 rfl rfl ?_
    refine V.gR hc gR_X12_43 (i' := o) rfl dX12_count_165 ?_
    refine V.sipush hc dX12_count_168 (by decide) ?_
    refine V.ald hc ak_56 (by omega) dX12_count_171 ?_
    exact V.iret hc hr dX12_count_172 hw
  replace hw := hw.2 c24
  by_cases c25 : a1 = 12
  · replace hw := hw.1 c25
    refine V.tswIn hc 12 c25 (by decide) (by decide) (by decide) (tgt := 173) dX12_count_6 rfl (by decide) ?_
    refine V.aload_n (t := 12) hc dX12_count_173 rfl rfl ?_
    refine V.gI hc gI_X12_232 rfl dX12_count_174 ?_
    exact V.iret hc hr dX12_count_177 hw
  replace hw := hw.2 c25
  by_cases c26 : a1 = 13
  · replace hw := hw.1 c26
    refine V.tswIn hc 13 c26 (by decide) (by decide) (by decide) (tgt := 178) dX12_count_6 rfl (by decide) ?_
    refine V.aload_n (t := 12) hc dX12_count_178 rfl rfl ?_
    refine V.gI hc gI_X12_235 rfl dX12_count_179 ?_
    exact V.iret hc hr dX12_count_182 hw
  replace hw := hw.2 c26
  by_cases c27 : a1 = 14
  · replace hw := hw.1 c27
    refine V.tswIn hc 14 c27 (by decide) (by decide) (by decide) (tgt := 183) dX12_count_6 rfl (by decide) ?_
    refine V.aload_n (t := 12) hc dX12_count_183 rfl rfl ?_
    refine V.gI hc gI_X12_121 rfl dX12_count_184 ?_
    exact V.iret hc hr dX12_count_187 hw
  replace hw := hw.2 c27
  by_cases c28 : a1 = 15
  · replace hw := hw.1 c28
    refine V.tswIn hc 15 c28 (by decide) (by decide) (by decide) (tgt := 188) dX12_count_6 rfl (by decide) ?_
    refine V.aload_n (t := 12) hc dX12_count_188 rfl rfl ?_
    refine V.gR hc gR_X12_46 (i' := o) rfl dX12_count_189 ?_
    refine V.iload_n hc dX12_count_192 rfl rfl ?_
    refine V.bipush hc dX12_count_193 (by decide) ?_
    refine V.isub hc dX12_count_195 ?_
    obtain ⟨g29, hw⟩ := hw
    refine V.ald hc ak_57 g29 dX12_count_196 ?_
    exact V.iret hc hr dX12_count_197 hw
  replace hw := hw.2 c28
  by_cases c30 : a1 = 16
  · replace hw := hw.1 c30
    refine V.tswIn hc 16 c30 (by decide) (by decide) (by decide) (tgt := 188) dX12_count_6 rfl (by decide) ?_
    refine V.aload_n (t := 12) hc dX12_count_188 rfl rfl ?_
    refine V.gR hc gR_X12_46 (i' := o) rfl dX12_count_189 ?_
    refine V.iload_n hc dX12_count_192 rfl rfl ?_
    refine V.bipush hc dX12_count_193 (by decide) ?_
    refine V.isub hc dX12_count_195 ?_
    obtain ⟨g31, hw⟩ := hw
    refine V.ald hc ak_57 g31 dX12_count_196 ?_
    exact V.iret hc hr dX12_count_197 hw
  replace hw := hw.2 c30
  by_cases c32 : a1 = 17
  · replace hw := hw.1 c32
    refine V.tswIn hc 17 c32 (by decide) (by decide) (by decide) (tgt := 188) dX12_count_6 rfl (by decide) ?_
    refine V.aload_n (t := 12) hc dX12_count_188 rfl rfl ?_
    refine V.gR hc gR_X12_46 (i' := o) rfl dX12_count_189 ?_
    refine V.iload_n hc dX12_count_192 rfl rfl ?_
    refine V.bipush hc dX12_count_193 (by decide) ?_
    refine V.isub hc dX12_count_195 ?_
    obtain ⟨g33, hw⟩ := hw
    refine V.ald hc ak_57 g33 dX12_count_196 ?_
    exact V.iret hc hr dX12_count_197 hw
  replace hw := hw.2 c32
  refine V.tswOut hc (tgt := 198) g2 dX12_count_6 (by omega) (by decide) ?_
  refine V.aload_n (t := 12) hc dX12_count_198 rfl rfl ?_
  refine V.iconst hc dX12_count_199 ?_
  refine V.callVI hc (qX12_fail G l _ _ _ _ hw) mo_X12_fail ml_X12_219 (by rfl) rfl rfl (as := [(0, 1)]) rfl rfl rfl rfl rfl ⟨Nat.zero_le _, Nat.zero_le _⟩ dX12_count_200 (fun x35 h34 hw => ?_)
  exact V.iret hc hr dX12_count_203 hw
theorem qX12_isClass (G : GG) (l : Launch) (o : Int) (a1 : Int) (h : HP) (P : Int → HP → Prop) (hw : wX12_isClass o a1 h P) : CnI l G yX12_isClass cX12_isClass 2 (some .boolean) 9 [(22, o), (0, a1)] h P := by
  refine CnI.of (lo := [(22, o), (0, a1)]) (by decide) rfl rfl rfl ?_
  intro p e s m args below meth c hc hr
  have hc : VC G p (rmD 9 0) s m args meth c RX12 cX12_isClass 2 9 := hc
  refine V.iload_n hc dX12_isClass_0 rfl rfl ?_
  refine V.iconst hc dX12_isClass_1 ?_
  refine V.aload_n (t := 12) hc dX12_isClass_2 rfl rfl ?_
  refine V.gR hc gR_X12_21 (i' := o) rfl dX12_isClass_3 ?_
  refine V.iconst hc dX12_isClass_6 ?_
  refine V.ald hc ak_49 (by omega) dX12_isClass_7 ?_
  refine V.iconst hc dX12_isClass_8 ?_
  refine V.isub hc dX12_isClass_9 ?_
  refine V.callSI hc (qX12_isIn G l _ _ _ _ _ hw) mo_X12_isIn ml_X12_356 (as := [(0, a1), (0, 0), (0, (h 49 o 0) - 1)]) rfl rfl rfl rfl rfl ⟨Nat.zero_le _, Nat.zero_le _⟩ dX12_isClass_10 (fun x2 h1 hw => ?_)
  obtain ⟨g3, hw⟩ := hw
  exact V.zret hc hr dX12_isClass_13 g3 hw
theorem qX12_isLeafThere (G : GG) (l : Launch) (o : Int) (a1 : Int) (h : HP) (P : Int → HP → Prop) (hw : wX12_isLeafThere o a1 h P) : CnI l G yX12_isLeafThere cX12_isLeafThere 2 (some .boolean) 10 [(22, o), (0, a1)] h P := by
  refine CnI.of (lo := [(22, o), (0, a1)]) (by decide) rfl rfl rfl ?_
  intro p e s m args below meth c hc hr
  have hc : VC G p (rmD 10 0) s m args meth c RX12 cX12_isLeafThere 2 10 := hc
  refine V.aload_n (t := 12) hc dX12_isLeafThere_0 rfl rfl ?_
  refine V.iload_n hc dX12_isLeafThere_1 rfl rfl ?_
  refine V.callVI hc (qX12_isClass G l _ _ _ _ hw) mo_X12_isClass ml_X12_360 (by rfl) rfl rfl (as := [(0, a1)]) rfl rfl rfl rfl rfl ⟨Nat.zero_le _, Nat.zero_le _⟩ dX12_isLeafThere_2 (fun x2 h1 hw => ?_)
  obtain ⟨g3, hw⟩ := hw
  refine V.if_eq hc (tgt := 20) dX12_isLeafThere_5 (by decide) g3 (fun c4 => ?_) (fun c4 => ?_)
  · replace hw := hw.1 c4
    refine V.iconst hc dX12_isLeafThere_20 ?_
    exact V.zret hc hr dX12_isLeafThere_21 (by omega) hw
  · replace hw := hw.2 c4
    refine V.aload_n (t := 12) hc dX12_isLeafThere_8 rfl rfl ?_
    refine V.iload_n hc dX12_isLeafThere_9 rfl rfl ?_
    refine V.callVI hc (qX12_isLeaf G l _ _ _ _ hw) mo_X12_isLeaf ml_X12_305 (by rfl) rfl rfl (as := [(0, a1)]) rfl rfl rfl rfl rfl ⟨Nat.zero_le _, Nat.zero_le _⟩ dX12_isLeafThere_10 (fun x6 h5 hw => ?_)
    obtain ⟨g7, hw⟩ := hw
    refine V.if_eq hc (tgt := 20) dX12_isLeafThere_13 (by decide) g7 (fun c8 => ?_) (fun c8 => ?_)
    · replace hw := hw.1 c8
      refine V.iconst hc dX12_isLeafThere_20 ?_
      exact V.zret hc hr dX12_isLeafThere_21 (by omega) hw
    · replace hw := hw.2 c8
      refine V.iconst hc dX12_isLeafThere_16 ?_
      refine V.goto hc (tgt := 21) dX12_isLeafThere_17 (by decide) ?_
      exact V.zret hc hr dX12_isLeafThere_21 (by omega) hw
theorem tX12_bytesOf_4 {G : GG} {p : Program} {l : Launch} {e : Jvm.Env} {s : State} {m : MethodId} {args : Array Value} {below : List Frame} {meth : Method} {c : Code} {P : Int → HP → Prop} (hc : VC G p (rmD 8 0) s m args meth c RX12 cX12_bytesOf 4 8) (hr : meth.sig.returnType = some .int) {o : Int} {a1 : Int} {h : HP} {K45 : Int → Prop} (hK45 : ∀ (x2 : Int), K45 x2 → V G p l e (rmD 8 0) s m args below meth c (MQ below (QI G P) args s 0 0 (va_Aof G)) 4 45 [(1, 0), (1, 0), (0, x2), (1, 0)] [] h 0) : ∀ (f : Nat) (l2 : Int) (l3 : Int), wX12_bytesOf_4 o a1 h K45 f l2 l3 → V G p l e (rmD 8 0) s m args below meth c (MQ below (QI G P) args s 0 0 (va_Aof G)) 4 4 [(22, o), (0, a1), (0, l2), (0, l3)] [] h 0 := by
  intro f
  induction f with
  | zero =>
    intro l2 l3 hw
    exact hw.elim
  | succ f ih =>
    intro l2 l3 hw
    refine V.iload_n hc dX12_bytesOf_4 rfl rfl ?_
    refine V.aload_n (t := 12) hc dX12_bytesOf_5 rfl rfl ?_
    refine V.gR hc gR_X12_43 (i' := o) rfl dX12_bytesOf_6 ?_
    refine V.sipush hc dX12_bytesOf_9 (by decide) ?_
    refine V.iload_n hc dX12_bytesOf_12 rfl rfl ?_
    refine V.imul hc dX12_bytesOf_13 ?_
    refine V.bipush hc dX12_bytesOf_14 (by decide) ?_
    refine V.iadd hc dX12_bytesOf_16 ?_
    obtain ⟨g1, hw⟩ := hw
    refine V.ald hc ak_56 g1 dX12_bytesOf_17 ?_
    obtain ⟨g2, hw⟩ := hw
    obtain ⟨g3, hw⟩ := hw
    refine V.icmp_ge hc (tgt := 45) dX12_bytesOf_18 (by decide) g2 g3 (fun c4 => ?_) (fun c4 => ?_)
    · replace hw := hw.1 c4
      refine V.drop (lo' := [(1, 0), (1, 0), (0, l2), (1, 0)]) ⟨Or.inl rfl, Or.inl rfl, Or.inr rfl, Or.inl rfl, trivial⟩ ?_
      exact hK45 _ hw
    · replace hw := hw.2 c4
      refine V.iload_n hc dX12_bytesOf_21 rfl rfl ?_
      refine V.aload_n (t := 12) hc dX12_bytesOf_22 rfl rfl ?_
      refine V.gR hc gR_X12_43 (i' := o) rfl dX12_bytesOf_23 ?_
      refine V.sipush hc dX12_bytesOf_26 (by decide) ?_
      refine V.iload_n hc dX12_bytesOf_29 rfl rfl ?_
      refine V.imul hc dX12_bytesOf_30 ?_
      refine V.bipush hc dX12_bytesOf_31 (by decide) ?_
      refine V.iadd hc dX12_bytesOf_33 ?_
      refine V.iload_n hc dX12_bytesOf_34 rfl rfl ?_
      refine V.iadd hc dX12_bytesOf_35 ?_
      obtain ⟨g5, hw⟩ := hw
      refine V.ald hc ak_56 g5 dX12_bytesOf_36 ?_
      refine V.iadd hc dX12_bytesOf_37 ?_
      refine V.istore_n hc dX12_bytesOf_38 rfl rfl (lo' := [(22, o), (0, a1), (0, l2 + (h 56 o (((257 * a1) + 18) + l3))), (0, l3)]) rfl ?_
      refine V.iinc hc dX12_bytesOf_39 rfl rfl (lo' := [(22, o), (0, a1), (0, l2 + (h 56 o (((257 * a1) + 18) + l3))), (0, l3 + 1)]) rfl ?_
      refine V.goto hc (tgt := 4) dX12_bytesOf_42 (by decide) ?_
      exact ih _ _ hw
theorem qX12_bytesOf (G : GG) (l : Launch) (o : Int) (a1 : Int) (h : HP) (P : Int → HP → Prop) (hw : wX12_bytesOf o a1 h P) : CnI l G yX12_bytesOf cX12_bytesOf 4 (some .int) 8 [(22, o), (0, a1)] h P := by
  refine CnI.of (lo := [(22, o), (0, a1), (1, 0), (1, 0)]) (by decide) rfl rfl rfl ?_
  intro p e s m args below meth c hc hr
  have hc : VC G p (rmD 8 0) s m args meth c RX12 cX12_bytesOf 4 8 := hc
  refine V.iconst hc dX12_bytesOf_0 ?_
  refine V.istore_n hc dX12_bytesOf_1 rfl rfl (lo' := [(22, o), (0, a1), (0, 0), (1, 0)]) rfl ?_
  refine V.iconst hc dX12_bytesOf_2 ?_
  refine V.istore_n hc dX12_bytesOf_3 rfl rfl (lo' := [(22, o), (0, a1), (0, 0), (0, 0)]) rfl ?_
  obtain ⟨f6, hw⟩ := hw
  refine tX12_bytesOf_4 hc hr ?_ f6 _ _ hw
  · intro l7 hw
    refine V.iload_n hc dX12_bytesOf_45 rfl rfl ?_
    exact V.iret hc hr dX12_bytesOf_46 hw
theorem tX12_of_111 {G : GG} {p : Program} {l : Launch} {e : Jvm.Env} {s : State} {m : MethodId} {args : Array Value} {below : List Frame} {meth : Method} {c : Code} {P : Int → HP → Prop} (hc : VC G p (rmD 22 0) s m args meth c RX12 cX12_of 3 22) (hr : meth.sig.returnType = some .int) {o : Int} {a1 : Int} {a2 : Int} {h : HP} (hw : wX12_of_111 o a1 a2 P h) : V G p l e (rmD 22 0) s m args below meth c (MQ below (QI G P) args s 0 0 (va_Aof G)) 3 111 [(22, o), (0, a1), (0, a2)] [] h 0 := by
  refine V.aload_n (t := 12) hc dX12_of_111 rfl rfl ?_
  refine V.gR hc gR_X12_43 (i' := o) rfl dX12_of_112 ?_
  refine V.sipush hc dX12_of_115 (by decide) ?_
  refine V.iload_n hc dX12_of_118 rfl rfl ?_
  refine V.imul hc dX12_of_119 ?_
  refine V.bipush hc dX12_of_120 (by decide) ?_
  refine V.iadd hc dX12_of_122 ?_
  refine V.iload_n hc dX12_of_123 rfl rfl ?_
  refine V.iadd hc dX12_of_124 ?_
  refine V.iconst hc dX12_of_125 ?_
  refine V.isub hc dX12_of_126 ?_
  obtain ⟨g26, hw⟩ := hw
  refine V.ald hc ak_56 g26 dX12_of_127 ?_
  exact V.iret hc hr dX12_of_128 hw
theorem qX12_of (G : GG) (l : Launch) (o : Int) (a1 : Int) (a2 : Int) (h : HP) (P : Int → HP → Prop) (hw : wX12_of o a1 a2 h P) : CnI l G yX12_of cX12_of 3 (some .int) 22 [(22, o), (0, a1), (0, a2)] h P := by
  refine CnI.of (lo := [(22, o), (0, a1), (0, a2)]) (by decide) rfl rfl rfl ?_
  intro p e s m args below meth c hc hr
  have hc : VC G p (rmD 22 0) s m args meth c RX12 cX12_of 3 22 := hc
  refine V.aload_n (t := 12) hc dX12_of_0 rfl rfl ?_
  refine V.iconst hc dX12_of_1 ?_
  refine V.pI hc pI_X12_118 rfl dX12_of_2 (fun h1 e => ?_)
  replace hw := hw h1 e
  clear e
  refine V.aload_n (t := 12) hc dX12_of_5 rfl rfl ?_
  refine V.iload_n hc dX12_of_6 rfl rfl ?_
  refine V.callVI hc (qX12_isClass G l _ _ _ _ hw) mo_X12_isClass ml_X12_360 (by rfl) rfl rfl (as := [(0, a1)]) rfl rfl rfl rfl rfl ⟨Nat.zero_le _, Nat.zero_le _⟩ dX12_of_7 (fun x3 h2 hw => ?_)
  obtain ⟨g4, hw⟩ := hw
  refine V.if_ne hc (tgt := 19) dX12_of_10 (by decide) g4 (fun c5 => ?_) (fun c5 => ?_)
  · replace hw := hw.1 c5
    refine V.iload_n hc dX12_of_19 rfl rfl ?_
    obtain ⟨g6, hw⟩ := hw
    by_cases c7 : a2 = 0
    · replace hw := hw.1 c7
      refine V.tswIn hc 0 c7 (by decide) (by decide) (by decide) (tgt := 76) dX12_of_20 rfl (by decide) ?_
      refine V.aload_n (t := 12) hc dX12_of_76 rfl rfl ?_
      refine V.gR hc gR_X12_25 (i' := o) rfl dX12_of_77 ?_
      refine V.iload_n hc dX12_of_80 rfl rfl ?_
      obtain ⟨g8, hw⟩ := hw
      refine V.ald hc ak_50 g8 dX12_of_81 ?_
      exact V.iret hc hr dX12_of_82 hw
    replace hw := hw.2 c7
    by_cases c9 : a2 = 1
    · replace hw := hw.1 c9
      refine V.tswIn hc 1 c9 (by decide) (by decide) (by decide) (tgt := 83) dX12_of_20 rfl (by decide) ?_
      refine V.aload_n (t := 12) hc dX12_of_83 rfl rfl ?_
      refine V.iload_n hc dX12_of_84 rfl rfl ?_
      refine V.callVI hc (qX12_isLeaf G l _ _ _ _ hw) mo_X12_isLeaf ml_X12_305 (by rfl) rfl rfl (as := [(0, a1)]) rfl rfl rfl rfl rfl ⟨Nat.zero_le _, Nat.zero_le _⟩ dX12_of_85 (fun x11 h10 hw => ?_)
      obtain ⟨q14, hw⟩ := hw
      have kJ15 : ∀ t13 : Int, ((x11 = 0 → t13 = 0) ∧ (¬ x11 = 0 → t13 = 1)) → V G p l e (rmD 22 0) s m args below meth c (MQ below (QI G P) args s 0 0 (va_Aof G)) 3 96 [(1, 0), (1, 0), (1, 0)] [(0, t13)] h10 0 := by
        intro t13 he
        replace hw := hw t13 he
        clear he
        exact V.iret hc hr dX12_of_96 hw
      have g12 := q14
      refine V.if_eq hc (tgt := 95) dX12_of_88 (by decide) g12 (fun c16 => ?_) (fun c16 => ?_)
      · refine V.iconst hc dX12_of_95 ?_
        refine V.drop (lo' := [(1, 0), (1, 0), (1, 0)]) ⟨Or.inl rfl, Or.inl rfl, Or.inl rfl, trivial⟩ ?_
        exact kJ15 _ ⟨fun _ => rfl, (fun q => absurd c16 q)⟩
      · refine V.iconst hc dX12_of_91 ?_
        refine V.goto hc (tgt := 96) dX12_of_92 (by decide) ?_
        refine V.drop (lo' := [(1, 0), (1, 0), (1, 0)]) ⟨Or.inl rfl, Or.inl rfl, Or.inl rfl, trivial⟩ ?_
        exact kJ15 _ ⟨(fun q => absurd q c16), fun _ => rfl⟩
    replace hw := hw.2 c9
    by_cases c17 : a2 = 2
    · replace hw := hw.1 c17
      refine V.tswIn hc 2 c17 (by decide) (by decide) (by decide) (tgt := 97) dX12_of_20 rfl (by decide) ?_
      refine V.aload_n (t := 12) hc dX12_of_97 rfl rfl ?_
      refine V.iload_n hc dX12_of_98 rfl rfl ?_
      refine V.callVI hc (qX12_isActive G l 13 _ _ _ _ hw) mo_X12_isActive ml_X12_262 (by rfl) rfl rfl (as := [(0, a1)]) rfl rfl rfl rfl rfl ⟨Nat.zero_le _, Nat.zero_le _⟩ dX12_of_99 (fun x19 h18 hw => ?_)
      obtain ⟨q22, hw⟩ := hw
      have kJ23 : ∀ t21 : Int, ((x19 = 0 → t21 = 0) ∧ (¬ x19 = 0 → t21 = 1)) → V G p l e (rmD 22 0) s m args below meth c (MQ below (QI G P) args s 0 0 (va_Aof G)) 3 110 [(1, 0), (1, 0), (1, 0)] [(0, t21)] h18 0 := by
        intro t21 he
        replace hw := hw t21 he
        clear he
        exact V.iret hc hr dX12_of_110 hw
      have g20 := q22
      refine V.if_eq hc (tgt := 109) dX12_of_102 (by decide) g20 (fun c24 => ?_) (fun c24 => ?_)
      · refine V.iconst hc dX12_of_109 ?_
        refine V.drop (lo' := [(1, 0), (1, 0), (1, 0)]) ⟨Or.inl rfl, Or.inl rfl, Or.inl rfl, trivial⟩ ?_
        exact kJ23 _ ⟨fun _ => rfl, (fun q => absurd c24 q)⟩
      · refine V.iconst hc dX12_of_105 ?_
        refine V.goto hc (tgt := 110) dX12_of_106 (by decide) ?_
        refine V.drop (lo' := [(1, 0), (1, 0), (1, 0)]) ⟨Or.inl rfl, Or.inl rfl, Or.inl rfl, trivial⟩ ?_
        exact kJ23 _ ⟨(fun q => absurd q c24), fun _ => rfl⟩
    replace hw := hw.2 c17
    by_cases c25 : a2 = 3
    · replace hw := hw.1 c25
      refine V.tswIn hc 3 c25 (by decide) (by decide) (by decide) (tgt := 111) dX12_of_20 rfl (by decide) ?_
      exact tX12_of_111 hc hr  hw
    replace hw := hw.2 c25
    by_cases c27 : a2 = 4
    · replace hw := hw.1 c27
      refine V.tswIn hc 4 c27 (by decide) (by decide) (by decide) (tgt := 111) dX12_of_20 rfl (by decide) ?_
      exact tX12_of_111 hc hr  hw
    replace hw := hw.2 c27
    by_cases c28 : a2 = 5
    · replace hw := hw.1 c28
      refine V.tswIn hc 5 c28 (by decide) (by decide) (by decide) (tgt := 111) dX12_of_20 rfl (by decide) ?_
      exact tX12_of_111 hc hr  hw
    replace hw := hw.2 c28
    by_cases c29 : a2 = 6
    · replace hw := hw.1 c29
      refine V.tswIn hc 6 c29 (by decide) (by decide) (by decide) (tgt := 111) dX12_of_20 rfl (by decide) ?_
      exact tX12_of_111 hc hr  hw
    replace hw := hw.2 c29
    by_cases c30 : a2 = 7
    · replace hw := hw.1 c30
      refine V.tswIn hc 7 c30 (by decide) (by decide) (by decide) (tgt := 111) dX12_of_20 rfl (by decide) ?_
      exact tX12_of_111 hc hr  hw
    replace hw := hw.2 c30
    by_cases c31 : a2 = 8
    · replace hw := hw.1 c31
      refine V.tswIn hc 8 c31 (by decide) (by decide) (by decide) (tgt := 111) dX12_of_20 rfl (by decide) ?_
      exact tX12_of_111 hc hr  hw
    replace hw := hw.2 c31
    by_cases c32 : a2 = 9
    · replace hw := hw.1 c32
      refine V.tswIn hc 9 c32 (by decide) (by decide) (by decide) (tgt := 129) dX12_of_20 rfl (by decide) ?_
      refine V.aload_n (t := 12) hc dX12_of_129 rfl rfl ?_
      refine V.iload_n hc dX12_of_130 rfl rfl ?_
      refine V.callVI hc (qX12_bytesOf G l _ _ _ _ hw) mo_X12_bytesOf ml_X12_363 (by rfl) rfl rfl (as := [(0, a1)]) rfl rfl rfl rfl rfl ⟨Nat.zero_le _, Nat.zero_le _⟩ dX12_of_131 (fun x34 h33 hw => ?_)
      exact V.iret hc hr dX12_of_134 hw
    replace hw := hw.2 c32
    refine V.tswOut hc (tgt := 135) g6 dX12_of_20 (by omega) (by decide) ?_
    refine V.aload_n (t := 12) hc dX12_of_135 rfl rfl ?_
    refine V.iconst hc dX12_of_136 ?_
    refine V.callVI hc (qX12_fail G l _ _ _ _ hw) mo_X12_fail ml_X12_219 (by rfl) rfl rfl (as := [(0, 1)]) rfl rfl rfl rfl rfl ⟨Nat.zero_le _, Nat.zero_le _⟩ dX12_of_137 (fun x36 h35 hw => ?_)
    exact V.iret hc hr dX12_of_140 hw
  · replace hw := hw.2 c5
    refine V.aload_n (t := 12) hc dX12_of_13 rfl rfl ?_
    refine V.iconst hc dX12_of_14 ?_
    refine V.callVI hc (qX12_fail G l _ _ _ _ hw) mo_X12_fail ml_X12_219 (by rfl) rfl rfl (as := [(0, 1)]) rfl rfl rfl rfl rfl ⟨Nat.zero_le _, Nat.zero_le _⟩ dX12_of_15 (fun x38 h37 hw => ?_)
    exact V.iret hc hr dX12_of_18 hw
theorem qX12_curve (G : GG) (l : Launch) (o : Int) (a1 : Int) (a2 : Int) (a3 : Int) (h : HP) (P : Int → HP → Prop) (hw : wX12_curve o a1 a2 a3 h P) : CnI l G yX12_curve cX12_curve 4 (some .int) 10 [(22, o), (0, a1), (0, a2), (0, a3)] h P := by
  refine CnI.of (lo := [(22, o), (0, a1), (0, a2), (0, a3)]) (by decide) rfl rfl rfl ?_
  intro p e s m args below meth c hc hr
  have hc : VC G p (rmD 10 0) s m args meth c RX12 cX12_curve 4 10 := hc
  refine V.aload_n (t := 12) hc dX12_curve_0 rfl rfl ?_
  refine V.iconst hc dX12_curve_1 ?_
  refine V.pI hc pI_X12_118 rfl dX12_curve_2 (fun h1 e => ?_)
  replace hw := hw h1 e
  clear e
  refine V.aload_n (t := 12) hc dX12_curve_5 rfl rfl ?_
  refine V.iload_n hc dX12_curve_6 rfl rfl ?_
  refine V.callVI hc (qX12_isClass G l _ _ _ _ hw) mo_X12_isClass ml_X12_360 (by rfl) rfl rfl (as := [(0, a1)]) rfl rfl rfl rfl rfl ⟨Nat.zero_le _, Nat.zero_le _⟩ dX12_curve_7 (fun x3 h2 hw => ?_)
  obtain ⟨g4, hw⟩ := hw
  refine V.if_eq hc (tgt := 40) dX12_curve_10 (by decide) g4 (fun c5 => ?_) (fun c5 => ?_)
  · replace hw := hw.1 c5
    refine V.aload_n (t := 12) hc dX12_curve_40 rfl rfl ?_
    refine V.iconst hc dX12_curve_41 ?_
    refine V.callVI hc (qX12_fail G l _ _ _ _ hw) mo_X12_fail ml_X12_219 (by rfl) rfl rfl (as := [(0, 1)]) rfl rfl rfl rfl rfl ⟨Nat.zero_le _, Nat.zero_le _⟩ dX12_curve_42 (fun x7 h6 hw => ?_)
    exact V.iret hc hr dX12_curve_45 hw
  · replace hw := hw.2 c5
    refine V.iload_n hc dX12_curve_13 rfl rfl ?_
    refine V.iconst hc dX12_curve_14 ?_
    refine V.iconst hc dX12_curve_15 ?_
    refine V.callSI hc (qX12_isIn G l _ _ _ _ _ hw) mo_X12_isIn ml_X12_356 (as := [(0, a2), (0, 0), (0, 2)]) rfl rfl rfl rfl rfl ⟨Nat.zero_le _, Nat.zero_le _⟩ dX12_curve_16 (fun x9 h8 hw => ?_)
    obtain ⟨g10, hw⟩ := hw
    refine V.if_eq hc (tgt := 40) dX12_curve_19 (by decide) g10 (fun c11 => ?_) (fun c11 => ?_)
    · replace hw := hw.1 c11
      refine V.aload_n (t := 12) hc dX12_curve_40 rfl rfl ?_
      refine V.iconst hc dX12_curve_41 ?_
      refine V.callVI hc (qX12_fail G l _ _ _ _ hw) mo_X12_fail ml_X12_219 (by rfl) rfl rfl (as := [(0, 1)]) rfl rfl rfl rfl rfl ⟨Nat.zero_le _, Nat.zero_le _⟩ dX12_curve_42 (fun x13 h12 hw => ?_)
      exact V.iret hc hr dX12_curve_45 hw
    · replace hw := hw.2 c11
      refine V.iload_n hc dX12_curve_22 rfl rfl ?_
      refine V.iconst hc dX12_curve_23 ?_
      refine V.iconst hc dX12_curve_24 ?_
      refine V.callSI hc (qX12_isIn G l _ _ _ _ _ hw) mo_X12_isIn ml_X12_356 (as := [(0, a3), (0, 0), (0, 2)]) rfl rfl rfl rfl rfl ⟨Nat.zero_le _, Nat.zero_le _⟩ dX12_curve_25 (fun x15 h14 hw => ?_)
      obtain ⟨g16, hw⟩ := hw
      refine V.if_eq hc (tgt := 40) dX12_curve_28 (by decide) g16 (fun c17 => ?_) (fun c17 => ?_)
      · replace hw := hw.1 c17
        refine V.aload_n (t := 12) hc dX12_curve_40 rfl rfl ?_
        refine V.iconst hc dX12_curve_41 ?_
        refine V.callVI hc (qX12_fail G l _ _ _ _ hw) mo_X12_fail ml_X12_219 (by rfl) rfl rfl (as := [(0, 1)]) rfl rfl rfl rfl rfl ⟨Nat.zero_le _, Nat.zero_le _⟩ dX12_curve_42 (fun x19 h18 hw => ?_)
        exact V.iret hc hr dX12_curve_45 hw
      · replace hw := hw.2 c17
        refine V.aload_n (t := 12) hc dX12_curve_31 rfl rfl ?_
        refine V.iload_n hc dX12_curve_32 rfl rfl ?_
        refine V.iload_n hc dX12_curve_33 rfl rfl ?_
        refine V.callVI hc (qX12_hasCurve G l _ _ _ _ _ hw) mo_X12_hasCurve ml_X12_283 (by rfl) rfl rfl (as := [(0, a1), (0, a2)]) rfl rfl rfl rfl rfl ⟨Nat.zero_le _, Nat.zero_le _⟩ dX12_curve_34 (fun x21 h20 hw => ?_)
        obtain ⟨g22, hw⟩ := hw
        refine V.if_ne hc (tgt := 46) dX12_curve_37 (by decide) g22 (fun c23 => ?_) (fun c23 => ?_)
        · replace hw := hw.1 c23
          refine V.aload_n (t := 12) hc dX12_curve_46 rfl rfl ?_
          refine V.gR hc gR_X12_43 (i' := o) rfl dX12_curve_47 ?_
          refine V.iload_n hc dX12_curve_50 rfl rfl ?_
          refine V.iload_n hc dX12_curve_51 rfl rfl ?_
          refine V.callSI hc (qX12_curveAt G l _ _ _ _ hw) mo_X12_curveAt ml_X12_245 (as := [(0, a1), (0, a2)]) rfl rfl rfl rfl rfl ⟨Nat.zero_le _, Nat.zero_le _⟩ dX12_curve_52 (fun x25 h24 hw => ?_)
          refine V.iconst hc dX12_curve_55 ?_
          refine V.iadd hc dX12_curve_56 ?_
          refine V.iload_n hc dX12_curve_57 rfl rfl ?_
          refine V.iadd hc dX12_curve_58 ?_
          obtain ⟨g26, hw⟩ := hw
          refine V.ald hc ak_56 g26 dX12_curve_59 ?_
          exact V.iret hc hr dX12_curve_60 hw
        · replace hw := hw.2 c23
          refine V.aload_n (t := 12) hc dX12_curve_40 rfl rfl ?_
          refine V.iconst hc dX12_curve_41 ?_
          refine V.callVI hc (qX12_fail G l _ _ _ _ hw) mo_X12_fail ml_X12_219 (by rfl) rfl rfl (as := [(0, 1)]) rfl rfl rfl rfl rfl ⟨Nat.zero_le _, Nat.zero_le _⟩ dX12_curve_42 (fun x28 h27 hw => ?_)
          exact V.iret hc hr dX12_curve_45 hw
theorem qX12_packet (G : GG) (l : Launch) (o : Int) (a1 : Int) (a2 : Int) (h : HP) (P : Int → HP → Prop) (hw : wX12_packet o a1 a2 h P) : CnI l G yX12_packet cX12_packet 3 (some .int) 10 [(22, o), (0, a1), (0, a2)] h P := by
  refine CnI.of (lo := [(22, o), (0, a1), (0, a2)]) (by decide) rfl rfl rfl ?_
  intro p e s m args below meth c hc hr
  have hc : VC G p (rmD 10 0) s m args meth c RX12 cX12_packet 3 10 := hc
  refine V.aload_n (t := 12) hc dX12_packet_0 rfl rfl ?_
  refine V.iconst hc dX12_packet_1 ?_
  refine V.pI hc pI_X12_118 rfl dX12_packet_2 (fun h1 e => ?_)
  replace hw := hw h1 e
  clear e
  refine V.aload_n (t := 12) hc dX12_packet_5 rfl rfl ?_
  refine V.iload_n hc dX12_packet_6 rfl rfl ?_
  refine V.callVI hc (qX12_isClass G l _ _ _ _ hw) mo_X12_isClass ml_X12_360 (by rfl) rfl rfl (as := [(0, a1)]) rfl rfl rfl rfl rfl ⟨Nat.zero_le _, Nat.zero_le _⟩ dX12_packet_7 (fun x3 h2 hw => ?_)
  obtain ⟨g4, hw⟩ := hw
  refine V.if_eq hc (tgt := 54) dX12_packet_10 (by decide) g4 (fun c5 => ?_) (fun c5 => ?_)
  · replace hw := hw.1 c5
    refine V.aload_n (t := 12) hc dX12_packet_54 rfl rfl ?_
    refine V.iconst hc dX12_packet_55 ?_
    refine V.callVI hc (qX12_fail G l _ _ _ _ hw) mo_X12_fail ml_X12_219 (by rfl) rfl rfl (as := [(0, 1)]) rfl rfl rfl rfl rfl ⟨Nat.zero_le _, Nat.zero_le _⟩ dX12_packet_56 (fun x7 h6 hw => ?_)
    exact V.iret hc hr dX12_packet_59 hw
  · replace hw := hw.2 c5
    refine V.iload_n hc dX12_packet_13 rfl rfl ?_
    refine V.iconst hc dX12_packet_14 ?_
    refine V.aload_n (t := 12) hc dX12_packet_15 rfl rfl ?_
    refine V.gR hc gR_X12_43 (i' := o) rfl dX12_packet_16 ?_
    refine V.sipush hc dX12_packet_19 (by decide) ?_
    refine V.iload_n hc dX12_packet_22 rfl rfl ?_
    refine V.imul hc dX12_packet_23 ?_
    refine V.bipush hc dX12_packet_24 (by decide) ?_
    refine V.iadd hc dX12_packet_26 ?_
    obtain ⟨g8, hw⟩ := hw
    refine V.ald hc ak_56 g8 dX12_packet_27 ?_
    refine V.iconst hc dX12_packet_28 ?_
    refine V.isub hc dX12_packet_29 ?_
    refine V.callSI hc (qX12_isIn G l _ _ _ _ _ hw) mo_X12_isIn ml_X12_356 (as := [(0, a2), (0, 0), (0, (h2 56 o ((257 * a1) + 17)) - 1)]) rfl rfl rfl rfl rfl ⟨Nat.zero_le _, Nat.zero_le _⟩ dX12_packet_30 (fun x10 h9 hw => ?_)
    obtain ⟨g11, hw⟩ := hw
    refine V.if_eq hc (tgt := 54) dX12_packet_33 (by decide) g11 (fun c12 => ?_) (fun c12 => ?_)
    · replace hw := hw.1 c12
      refine V.aload_n (t := 12) hc dX12_packet_54 rfl rfl ?_
      refine V.iconst hc dX12_packet_55 ?_
      refine V.callVI hc (qX12_fail G l _ _ _ _ hw) mo_X12_fail ml_X12_219 (by rfl) rfl rfl (as := [(0, 1)]) rfl rfl rfl rfl rfl ⟨Nat.zero_le _, Nat.zero_le _⟩ dX12_packet_56 (fun x14 h13 hw => ?_)
      exact V.iret hc hr dX12_packet_59 hw
    · replace hw := hw.2 c12
      refine V.aload_n (t := 12) hc dX12_packet_36 rfl rfl ?_
      refine V.gR hc gR_X12_43 (i' := o) rfl dX12_packet_37 ?_
      refine V.sipush hc dX12_packet_40 (by decide) ?_
      refine V.iload_n hc dX12_packet_43 rfl rfl ?_
      refine V.imul hc dX12_packet_44 ?_
      refine V.bipush hc dX12_packet_45 (by decide) ?_
      refine V.iadd hc dX12_packet_47 ?_
      refine V.iload_n hc dX12_packet_48 rfl rfl ?_
      refine V.iadd hc dX12_packet_49 ?_
      obtain ⟨g15, hw⟩ := hw
      refine V.ald hc ak_56 g15 dX12_packet_50 ?_
      refine V.goto hc (tgt := 59) dX12_packet_51 (by decide) ?_
      exact V.iret hc hr dX12_packet_59 hw
theorem tX12_due_50 {G : GG} {p : Program} {l : Launch} {e : Jvm.Env} {s : State} {m : MethodId} {args : Array Value} {below : List Frame} {meth : Method} {c : Code} {P : Int → HP → Prop} (hc : VC G p (rmD 36 0) s m args meth c RX12 cX12_due 3 36) (hr : meth.sig.returnType = some .int) {o : Int} {a1 : Int} {a2 : Int} {h : HP} (hw : wX12_due_50 o a1 a2 P h) : V G p l e (rmD 36 0) s m args below meth c (MQ below (QI G P) args s 0 0 (va_Aof G)) 3 50 [(22, o), (0, a1), (0, a2)] [] h 0 := by
  refine V.iload_n hc dX12_due_50 rfl rfl ?_
  obtain ⟨g22, hw⟩ := hw
  refine V.if_ne hc (tgt := 62) dX12_due_51 (by decide) g22 (fun c23 => ?_) (fun c23 => ?_)
  · replace hw := hw.1 c23
    refine V.iload_n hc dX12_due_62 rfl rfl ?_
    refine V.iconst hc dX12_due_63 ?_
    obtain ⟨g24, hw⟩ := hw
    refine V.icmp_ne hc (tgt := 75) dX12_due_64 (by decide) g24 (by omega) (fun c25 => ?_) (fun c25 => ?_)
    · replace hw := hw.1 c25
      refine V.aload_n (t := 12) hc dX12_due_75 rfl rfl ?_
      refine V.iload_n hc dX12_due_76 rfl rfl ?_
      refine V.callVI hc (qX12_fit G l 13 _ _ _ _ hw) mo_X12_fit ml_X12_293 (by rfl) rfl rfl (as := [(0, a1)]) rfl rfl rfl rfl rfl ⟨Nat.zero_le _, Nat.zero_le _⟩ dX12_due_77 (fun x27 h26 hw => ?_)
      exact V.iret hc hr dX12_due_80 hw
    · replace hw := hw.2 c25
      refine V.aload_n (t := 12) hc dX12_due_67 rfl rfl ?_
      refine V.iload_n hc dX12_due_68 rfl rfl ?_
      refine V.callVI hc (qX12_deadline G l _ _ _ _ hw) mo_X12_deadline ml_X12_299 (by rfl) rfl rfl (as := [(0, a1)]) rfl rfl rfl rfl rfl ⟨Nat.zero_le _, Nat.zero_le _⟩ dX12_due_69 (fun x29 h28 hw => ?_)
      refine V.goto hc (tgt := 80) dX12_due_72 (by decide) ?_
      exact V.iret hc hr dX12_due_80 hw
  · replace hw := hw.2 c23
    refine V.aload_n (t := 12) hc dX12_due_54 rfl rfl ?_
    refine V.iload_n hc dX12_due_55 rfl rfl ?_
    refine V.callVI hc (qX12_eligible G l _ _ _ _ hw) mo_X12_eligible ml_X12_296 (by rfl) rfl rfl (as := [(0, a1)]) rfl rfl rfl rfl rfl ⟨Nat.zero_le _, Nat.zero_le _⟩ dX12_due_56 (fun x31 h30 hw => ?_)
    refine V.goto hc (tgt := 80) dX12_due_59 (by decide) ?_
    exact V.iret hc hr dX12_due_80 hw
theorem qX12_due (G : GG) (l : Launch) (o : Int) (a1 : Int) (a2 : Int) (h : HP) (P : Int → HP → Prop) (hw : wX12_due o a1 a2 h P) : CnI l G yX12_due cX12_due 3 (some .int) 36 [(22, o), (0, a1), (0, a2)] h P := by
  refine CnI.of (lo := [(22, o), (0, a1), (0, a2)]) (by decide) rfl rfl rfl ?_
  intro p e s m args below meth c hc hr
  have hc : VC G p (rmD 36 0) s m args meth c RX12 cX12_due 3 36 := hc
  refine V.aload_n (t := 12) hc dX12_due_0 rfl rfl ?_
  refine V.iconst hc dX12_due_1 ?_
  refine V.pI hc pI_X12_118 rfl dX12_due_2 (fun h1 e => ?_)
  replace hw := hw h1 e
  clear e
  refine V.aload_n (t := 12) hc dX12_due_5 rfl rfl ?_
  refine V.iload_n hc dX12_due_6 rfl rfl ?_
  refine V.callVI hc (qX12_isClass G l _ _ _ _ hw) mo_X12_isClass ml_X12_360 (by rfl) rfl rfl (as := [(0, a1)]) rfl rfl rfl rfl rfl ⟨Nat.zero_le _, Nat.zero_le _⟩ dX12_due_7 (fun x3 h2 hw => ?_)
  obtain ⟨g4, hw⟩ := hw
  refine V.if_eq hc (tgt := 44) dX12_due_10 (by decide) g4 (fun c5 => ?_) (fun c5 => ?_)
  · replace hw := hw.1 c5
    refine V.aload_n (t := 12) hc dX12_due_44 rfl rfl ?_
    refine V.iconst hc dX12_due_45 ?_
    refine V.callVI hc (qX12_fail G l _ _ _ _ hw) mo_X12_fail ml_X12_219 (by rfl) rfl rfl (as := [(0, 1)]) rfl rfl rfl rfl rfl ⟨Nat.zero_le _, Nat.zero_le _⟩ dX12_due_46 (fun x7 h6 hw => ?_)
    exact V.iret hc hr dX12_due_49 hw
  · replace hw := hw.2 c5
    refine V.iload_n hc dX12_due_13 rfl rfl ?_
    refine V.iconst hc dX12_due_14 ?_
    refine V.iconst hc dX12_due_15 ?_
    refine V.callSI hc (qX12_isIn G l _ _ _ _ _ hw) mo_X12_isIn ml_X12_356 (as := [(0, a2), (0, 0), (0, 2)]) rfl rfl rfl rfl rfl ⟨Nat.zero_le _, Nat.zero_le _⟩ dX12_due_16 (fun x9 h8 hw => ?_)
    obtain ⟨g10, hw⟩ := hw
    refine V.if_eq hc (tgt := 44) dX12_due_19 (by decide) g10 (fun c11 => ?_) (fun c11 => ?_)
    · replace hw := hw.1 c11
      refine V.aload_n (t := 12) hc dX12_due_44 rfl rfl ?_
      refine V.iconst hc dX12_due_45 ?_
      refine V.callVI hc (qX12_fail G l _ _ _ _ hw) mo_X12_fail ml_X12_219 (by rfl) rfl rfl (as := [(0, 1)]) rfl rfl rfl rfl rfl ⟨Nat.zero_le _, Nat.zero_le _⟩ dX12_due_46 (fun x13 h12 hw => ?_)
      exact V.iret hc hr dX12_due_49 hw
    · replace hw := hw.2 c11
      refine V.aload_n (t := 12) hc dX12_due_22 rfl rfl ?_
      refine V.iload_n hc dX12_due_23 rfl rfl ?_
      refine V.callVI hc (qX12_isActive G l 13 _ _ _ _ hw) mo_X12_isActive ml_X12_262 (by rfl) rfl rfl (as := [(0, a1)]) rfl rfl rfl rfl rfl ⟨Nat.zero_le _, Nat.zero_le _⟩ dX12_due_24 (fun x15 h14 hw => ?_)
      obtain ⟨g16, hw⟩ := hw
      refine V.if_eq hc (tgt := 44) dX12_due_27 (by decide) g16 (fun c17 => ?_) (fun c17 => ?_)
      · replace hw := hw.1 c17
        refine V.aload_n (t := 12) hc dX12_due_44 rfl rfl ?_
        refine V.iconst hc dX12_due_45 ?_
        refine V.callVI hc (qX12_fail G l _ _ _ _ hw) mo_X12_fail ml_X12_219 (by rfl) rfl rfl (as := [(0, 1)]) rfl rfl rfl rfl rfl ⟨Nat.zero_le _, Nat.zero_le _⟩ dX12_due_46 (fun x19 h18 hw => ?_)
        exact V.iret hc hr dX12_due_49 hw
      · replace hw := hw.2 c17
        refine V.iload_n hc dX12_due_30 rfl rfl ?_
        refine V.iconst hc dX12_due_31 ?_
        obtain ⟨g20, hw⟩ := hw
        refine V.icmp_ge hc (tgt := 50) dX12_due_32 (by decide) g20 (by omega) (fun c21 => ?_) (fun c21 => ?_)
        · replace hw := hw.1 c21
          exact tX12_due_50 hc hr  hw
        · replace hw := hw.2 c21
          refine V.aload_n (t := 12) hc dX12_due_35 rfl rfl ?_
          refine V.iload_n hc dX12_due_36 rfl rfl ?_
          refine V.iconst hc dX12_due_37 ?_
          refine V.callVI hc (qX12_hasCurve G l _ _ _ _ _ hw) mo_X12_hasCurve ml_X12_283 (by rfl) rfl rfl (as := [(0, a1), (0, 0)]) rfl rfl rfl rfl rfl ⟨Nat.zero_le _, Nat.zero_le _⟩ dX12_due_38 (fun x33 h32 hw => ?_)
          obtain ⟨g34, hw⟩ := hw
          refine V.if_ne hc (tgt := 50) dX12_due_41 (by decide) g34 (fun c35 => ?_) (fun c35 => ?_)
          · replace hw := hw.1 c35
            exact tX12_due_50 hc hr  hw
          · replace hw := hw.2 c35
            refine V.aload_n (t := 12) hc dX12_due_44 rfl rfl ?_
            refine V.iconst hc dX12_due_45 ?_
            refine V.callVI hc (qX12_fail G l _ _ _ _ hw) mo_X12_fail ml_X12_219 (by rfl) rfl rfl (as := [(0, 1)]) rfl rfl rfl rfl rfl ⟨Nat.zero_le _, Nat.zero_le _⟩ dX12_due_46 (fun x37 h36 hw => ?_)
            exact V.iret hc hr dX12_due_49 hw
theorem qX12_refuse (G : GG) (l : Launch) (o : Int) (a1 : Int) (h : HP) (P : Int → HP → Prop) (hw : wX12_refuse o a1 h P) : CnI l G yX12_refuse cX12_refuse 2 (some .int) 8 [(22, o), (0, a1)] h P := by
  refine CnI.of (lo := [(22, o), (0, a1)]) (by decide) rfl rfl rfl ?_
  intro p e s m args below meth c hc hr
  have hc : VC G p (rmD 8 0) s m args meth c RX12 cX12_refuse 2 8 := hc
  refine V.aload_n (t := 12) hc dX12_refuse_0 rfl rfl ?_
  refine V.gR hc gR_X12_46 (i' := o) rfl dX12_refuse_1 ?_
  refine V.iload_n hc dX12_refuse_4 rfl rfl ?_
  refine V.dup2 hc dX12_refuse_5 (by simp) (by simp) ?_
  obtain ⟨g1, hw⟩ := hw
  refine V.ald hc ak_57 g1 dX12_refuse_6 ?_
  refine V.iconst hc dX12_refuse_7 ?_
  refine V.iadd hc dX12_refuse_8 ?_
  obtain ⟨g3, hw⟩ := hw
  refine V.ast hc ak_57 g3 dX12_refuse_9 (fun h2 e => ?_)
  replace hw := hw h2 e
  clear e
  refine V.iconst hc dX12_refuse_10 ?_
  exact V.iret hc hr dX12_refuse_11 hw
theorem tX12_copyTo_2 {G : GG} {p : Program} {l : Launch} {e : Jvm.Env} {s : State} {m : MethodId} {args : Array Value} {below : List Frame} {meth : Method} {c : Code} {P : HP → Prop} (hc : VC G p (rmD 8 0) s m args meth c RX12 cX12_copyTo 3 8) (hr : meth.sig.returnType = none) {k0 : Nat} {i0 : Int} {k1 : Nat} {i1 : Int} {k0_ : Nat} {i0_ : Int} {k1_ : Nat} {i1_ : Int} {K20 : HP → Prop} (hK20 : ∀  (h : HP), K20  h → V G p l e (rmD 8 0) s m args below meth c (MQ below (QV G P) args s 0 0 (va_Aof G)) 3 20 [(1, 0), (1, 0), (1, 0)] [] h 0) : ∀ (f : Nat) (l2 : Int) (h : HP), wX12_copyTo_2 k0 i0 k1 i1 k0_ i0_ k1_ i1_ K20 f l2 h → V G p l e (rmD 8 0) s m args below meth c (MQ below (QV G P) args s 0 0 (va_Aof G)) 3 2 [(k0_ + 10, i0_), (k1_ + 10, i1_), (0, l2)] [] h 0 := by
  intro f
  induction f with
  | zero =>
    intro l2 h hw
    exact hw.elim
  | succ f ih =>
    intro l2 h hw
    refine V.iload_n hc dX12_copyTo_2 rfl rfl ?_
    refine V.aload_n (t := k0_) hc dX12_copyTo_3 rfl rfl ?_
    obtain ⟨g1, hw⟩ := hw
    refine V.aln hc ⟨g1, rfl⟩ dX12_copyTo_4 ?_
    obtain ⟨g2, hw⟩ := hw
    obtain ⟨g3, hw⟩ := hw
    refine V.icmp_ge hc (tgt := 20) dX12_copyTo_5 (by decide) g2 g3 (fun c4 => ?_) (fun c4 => ?_)
    · replace hw := hw.1 c4
      refine V.drop (lo' := [(1, 0), (1, 0), (1, 0)]) ⟨Or.inl rfl, Or.inl rfl, Or.inl rfl, trivial⟩ ?_
      exact hK20 _ hw
    · replace hw := hw.2 c4
      refine V.aload_n (t := k0_) hc dX12_copyTo_8 rfl rfl ?_
      refine V.iload_n hc dX12_copyTo_9 rfl rfl ?_
      refine V.aload_n (t := k1_) hc dX12_copyTo_10 rfl rfl ?_
      refine V.iload_n hc dX12_copyTo_11 rfl rfl ?_
      obtain ⟨g5, hw⟩ := hw
      obtain ⟨g6, hw⟩ := hw
      refine V.ald hc ⟨g5, rfl⟩ g6 dX12_copyTo_12 ?_
      obtain ⟨g8, hw⟩ := hw
      obtain ⟨g9, hw⟩ := hw
      refine V.ast hc ⟨g8, rfl⟩ g9 dX12_copyTo_13 (fun h7 e => ?_)
      replace hw := hw h7 e
      clear e
      refine V.iinc hc dX12_copyTo_14 rfl rfl (lo' := [(k0_ + 10, i0_), (k1_ + 10, i1_), (0, l2 + 1)]) rfl ?_
      refine V.goto hc (tgt := 2) dX12_copyTo_17 (by decide) ?_
      exact ih _ _ hw
theorem qX12_copyTo (G : GG) (l : Launch) (k0 : Nat) (i0 : Int) (k1 : Nat) (i1 : Int) (h : HP) (P : HP → Prop) (hw : wX12_copyTo k0 i0 k1 i1 h P) : CnV l G yX12_copyTo cX12_copyTo 3 8 [(k0 + 10, i0), (k1 + 10, i1)] h P := by
  refine CnV.of (lo := [(k0 + 10, i0), (k1 + 10, i1), (1, 0)]) (by decide) rfl rfl rfl ?_
  intro p e s m args below meth c hc hr
  have hc : VC G p (rmD 8 0) s m args meth c RX12 cX12_copyTo 3 8 := hc
  refine V.iconst hc dX12_copyTo_0 ?_
  refine V.istore_n hc dX12_copyTo_1 rfl rfl (lo' := [(k0 + 10, i0), (k1 + 10, i1), (0, 0)]) rfl ?_
  obtain ⟨f10, hw⟩ := hw
  refine tX12_copyTo_2 hc hr ?_ f10 _ _ hw
  · intro h11 hw
    exact V.vret hc hr dX12_copyTo_20 hw
theorem tX12_keep_56 {G : GG} {p : Program} {l : Launch} {e : Jvm.Env} {s : State} {m : MethodId} {args : Array Value} {below : List Frame} {meth : Method} {c : Code} {P : HP → Prop} (hc : VC G p (rmD 8 0) s m args meth c RX12 cX12_keep 2 8) (hr : meth.sig.returnType = none) {o : Int} {K90 : HP → Prop} (hK90 : ∀  (h : HP), K90  h → V G p l e (rmD 8 0) s m args below meth c (MQ below (QV G P) args s 0 0 (va_Aof G)) 2 90 [(22, o), (1, 0)] [] h 0) : ∀ (f : Nat) (l1 : Int) (h : HP), wX12_keep_56 o K90 f l1 h → V G p l e (rmD 8 0) s m args below meth c (MQ below (QV G P) args s 0 0 (va_Aof G)) 2 56 [(22, o), (0, l1)] [] h 0 := by
  intro f
  induction f with
  | zero =>
    intro l1 h hw
    exact hw.elim
  | succ f ih =>
    intro l1 h hw
    refine V.iload_n hc dX12_keep_56 rfl rfl ?_
    refine V.sipush hc dX12_keep_57 (by decide) ?_
    obtain ⟨g3, hw⟩ := hw
    refine V.icmp_ge hc (tgt := 90) dX12_keep_60 (by decide) g3 (by omega) (fun c4 => ?_) (fun c4 => ?_)
    · replace hw := hw.1 c4
      refine V.drop (lo' := [(22, o), (1, 0)]) ⟨Or.inr rfl, Or.inl rfl, trivial⟩ ?_
      exact hK90 _ hw
    · replace hw := hw.2 c4
      refine V.aload_n (t := 12) hc dX12_keep_63 rfl rfl ?_
      refine V.gR hc gR_X12_73 (i' := o) rfl dX12_keep_64 ?_
      refine V.sipush hc dX12_keep_67 (by decide) ?_
      refine V.aload_n (t := 12) hc dX12_keep_70 rfl rfl ?_
      refine V.gI hc gI_X12_232 rfl dX12_keep_71 ?_
      refine V.imul hc dX12_keep_74 ?_
      refine V.iload_n hc dX12_keep_75 rfl rfl ?_
      refine V.iadd hc dX12_keep_76 ?_
      refine V.aload_n (t := 12) hc dX12_keep_77 rfl rfl ?_
      refine V.gR hc gR_X12_43 (i' := o) rfl dX12_keep_78 ?_
      refine V.iload_n hc dX12_keep_81 rfl rfl ?_
      obtain ⟨g5, hw⟩ := hw
      refine V.ald hc ak_56 g5 dX12_keep_82 ?_
      obtain ⟨g7, hw⟩ := hw
      refine V.ast hc ak_62 g7 dX12_keep_83 (fun h6 e => ?_)
      replace hw := hw h6 e
      clear e
      refine V.iinc hc dX12_keep_84 rfl rfl (lo' := [(22, o), (0, l1 + 1)]) rfl ?_
      refine V.goto hc (tgt := 56) dX12_keep_87 (by decide) ?_
      exact ih _ _ hw
theorem tX12_keep_54 {G : GG} {p : Program} {l : Launch} {e : Jvm.Env} {s : State} {m : MethodId} {args : Array Value} {below : List Frame} {meth : Method} {c : Code} {P : HP → Prop} (hc : VC G p (rmD 8 0) s m args meth c RX12 cX12_keep 2 8) (hr : meth.sig.returnType = none) {o : Int} {h : HP} (hw : wX12_keep_54 o P h) : V G p l e (rmD 8 0) s m args below meth c (MQ below (QV G P) args s 0 0 (va_Aof G)) 2 54 [(22, o), (1, 0)] [] h 0 := by
  refine V.iconst hc dX12_keep_54 ?_
  refine V.istore_n hc dX12_keep_55 rfl rfl (lo' := [(22, o), (0, 0)]) rfl ?_
  obtain ⟨f8, hw⟩ := hw
  refine tX12_keep_56 hc hr ?_ f8 _ _ hw
  · intro h9 hw
    refine V.aload_n (t := 12) hc dX12_keep_90 rfl rfl ?_
    refine V.dup hc dX12_keep_91 (by simp) ?_
    refine V.gI hc gI_X12_232 rfl dX12_keep_92 ?_
    refine V.iconst hc dX12_keep_95 ?_
    refine V.iadd hc dX12_keep_96 ?_
    refine V.pI hc pI_X12_232 rfl dX12_keep_97 (fun h10 e => ?_)
    replace hw := hw h10 e
    clear e
    exact V.vret hc hr dX12_keep_100 hw
theorem tX12_keep_13 {G : GG} {p : Program} {l : Launch} {e : Jvm.Env} {s : State} {m : MethodId} {args : Array Value} {below : List Frame} {meth : Method} {c : Code} {P : HP → Prop} (hc : VC G p (rmD 8 0) s m args meth c RX12 cX12_keep 2 8) (hr : meth.sig.returnType = none) {o : Int} {K44 : HP → Prop} (hK44 : ∀  (h : HP), K44  h → V G p l e (rmD 8 0) s m args below meth c (MQ below (QV G P) args s 0 0 (va_Aof G)) 2 44 [(22, o), (1, 0)] [] h 0) : ∀ (f : Nat) (l1 : Int) (h : HP), wX12_keep_13 o K44 f l1 h → V G p l e (rmD 8 0) s m args below meth c (MQ below (QV G P) args s 0 0 (va_Aof G)) 2 13 [(22, o), (0, l1)] [] h 0 := by
  intro f
  induction f with
  | zero =>
    intro l1 h hw
    exact hw.elim
  | succ f ih =>
    intro l1 h hw
    refine V.iload_n hc dX12_keep_13 rfl rfl ?_
    refine V.aload_n (t := 12) hc dX12_keep_14 rfl rfl ?_
    refine V.gR hc gR_X12_73 (i' := o) rfl dX12_keep_15 ?_
    refine V.aln hc ak_62 dX12_keep_18 ?_
    obtain ⟨g11, hw⟩ := hw
    refine V.icmp_ge hc (tgt := 44) dX12_keep_19 (by decide) g11 (by omega) (fun c12 => ?_) (fun c12 => ?_)
    · replace hw := hw.1 c12
      refine V.drop (lo' := [(22, o), (1, 0)]) ⟨Or.inr rfl, Or.inl rfl, trivial⟩ ?_
      exact hK44 _ hw
    · replace hw := hw.2 c12
      refine V.aload_n (t := 12) hc dX12_keep_22 rfl rfl ?_
      refine V.gR hc gR_X12_73 (i' := o) rfl dX12_keep_23 ?_
      refine V.iload_n hc dX12_keep_26 rfl rfl ?_
      refine V.sipush hc dX12_keep_27 (by decide) ?_
      refine V.isub hc dX12_keep_30 ?_
      refine V.aload_n (t := 12) hc dX12_keep_31 rfl rfl ?_
      refine V.gR hc gR_X12_73 (i' := o) rfl dX12_keep_32 ?_
      refine V.iload_n hc dX12_keep_35 rfl rfl ?_
      obtain ⟨g13, hw⟩ := hw
      refine V.ald hc ak_62 g13 dX12_keep_36 ?_
      obtain ⟨g15, hw⟩ := hw
      refine V.ast hc ak_62 g15 dX12_keep_37 (fun h14 e => ?_)
      replace hw := hw h14 e
      clear e
      refine V.iinc hc dX12_keep_38 rfl rfl (lo' := [(22, o), (0, l1 + 1)]) rfl ?_
      refine V.goto hc (tgt := 13) dX12_keep_41 (by decide) ?_
      exact ih _ _ hw
theorem qX12_keep (G : GG) (l : Launch) (o : Int) (h : HP) (P : HP → Prop) (hw : wX12_keep o h P) : CnV l G yX12_keep cX12_keep 2 8 [(22, o)] h P := by
  refine CnV.of (lo := [(22, o), (1, 0)]) (by decide) rfl rfl rfl ?_
  intro p e s m args below meth c hc hr
  have hc : VC G p (rmD 8 0) s m args meth c RX12 cX12_keep 2 8 := hc
  refine V.aload_n (t := 12) hc dX12_keep_0 rfl rfl ?_
  refine V.gI hc gI_X12_232 rfl dX12_keep_1 ?_
  refine V.bipush hc dX12_keep_4 (by decide) ?_
  obtain ⟨g1, hw⟩ := hw
  refine V.icmp_ne hc (tgt := 54) dX12_keep_6 (by decide) g1 (by omega) (fun c2 => ?_) (fun c2 => ?_)
  · replace hw := hw.1 c2
    exact tX12_keep_54 hc hr  hw
  · replace hw := hw.2 c2
    refine V.sipush hc dX12_keep_9 (by decide) ?_
    refine V.istore_n hc dX12_keep_12 rfl rfl (lo' := [(22, o), (0, 3099)]) rfl ?_
    obtain ⟨f16, hw⟩ := hw
    refine tX12_keep_13 hc hr ?_ f16 _ _ hw
    · intro h17 hw
      refine V.aload_n (t := 12) hc dX12_keep_44 rfl rfl ?_
      refine V.dup hc dX12_keep_45 (by simp) ?_
      refine V.gI hc gI_X12_232 rfl dX12_keep_46 ?_
      refine V.iconst hc dX12_keep_49 ?_
      refine V.isub hc dX12_keep_50 ?_
      refine V.pI hc pI_X12_232 rfl dX12_keep_51 (fun h18 e => ?_)
      replace hw := hw h18 e
      clear e
      exact tX12_keep_54 hc hr  hw
theorem qX12_come (G : GG) (l : Launch) (o : Int) (a1 : Int) (a2 : Int) (h : HP) (P : Int → HP → Prop) (hw : wX12_come o a1 a2 h P) : CnI l G yX12_come cX12_come 3 (some .int) 25 [(22, o), (0, a1), (0, a2)] h P := by
  refine CnI.of (lo := [(22, o), (0, a1), (0, a2)]) (by decide) rfl rfl rfl ?_
  intro p e s m args below meth c hc hr
  have hc : VC G p (rmD 25 0) s m args meth c RX12 cX12_come 3 25 := hc
  refine V.aload_n (t := 12) hc dX12_come_0 rfl rfl ?_
  refine V.iconst hc dX12_come_1 ?_
  refine V.pI hc pI_X12_118 rfl dX12_come_2 (fun h1 e => ?_)
  replace hw := hw h1 e
  clear e
  refine V.aload_n (t := 12) hc dX12_come_5 rfl rfl ?_
  refine V.iload_n hc dX12_come_6 rfl rfl ?_
  refine V.callVI hc (qX12_isLeafThere G l _ _ _ _ hw) mo_X12_isLeafThere ml_X12_366 (by rfl) rfl rfl (as := [(0, a1)]) rfl rfl rfl rfl rfl ⟨Nat.zero_le _, Nat.zero_le _⟩ dX12_come_7 (fun x3 h2 hw => ?_)
  obtain ⟨g4, hw⟩ := hw
  refine V.if_eq hc (tgt := 23) dX12_come_10 (by decide) g4 (fun c5 => ?_) (fun c5 => ?_)
  · replace hw := hw.1 c5
    refine V.aload_n (t := 12) hc dX12_come_23 rfl rfl ?_
    refine V.iconst hc dX12_come_24 ?_
    refine V.callVI hc (qX12_refuse G l _ _ _ _ hw) mo_X12_refuse ml_X12_369 (by rfl) rfl rfl (as := [(0, 1)]) rfl rfl rfl rfl rfl ⟨Nat.zero_le _, Nat.zero_le _⟩ dX12_come_25 (fun x7 h6 hw => ?_)
    exact V.iret hc hr dX12_come_28 hw
  · replace hw := hw.2 c5
    refine V.iload_n hc dX12_come_13 rfl rfl ?_
    refine V.iconst hc dX12_come_14 ?_
    refine V.bipush hc dX12_come_15 (by decide) ?_
    refine V.callSI hc (qX12_isIn G l _ _ _ _ _ hw) mo_X12_isIn ml_X12_356 (as := [(0, a2), (0, 1), (0, 64)]) rfl rfl rfl rfl rfl ⟨Nat.zero_le _, Nat.zero_le _⟩ dX12_come_17 (fun x9 h8 hw => ?_)
    obtain ⟨g10, hw⟩ := hw
    refine V.if_ne hc (tgt := 29) dX12_come_20 (by decide) g10 (fun c11 => ?_) (fun c11 => ?_)
    · replace hw := hw.1 c11
      refine V.aload_n (t := 12) hc dX12_come_29 rfl rfl ?_
      refine V.callVV hc (qX12_keep G l _ _ _ hw) mo_X12_keep ml_X12_372 (by rfl) rfl rfl (as := []) rfl rfl rfl rfl rfl ⟨Nat.zero_le _, Nat.zero_le _⟩ dX12_come_30 (fun h12 hw => ?_)
      refine V.aload_n (t := 12) hc dX12_come_33 rfl rfl ?_
      refine V.iload_n hc dX12_come_34 rfl rfl ?_
      refine V.iload_n hc dX12_come_35 rfl rfl ?_
      refine V.callVI hc (qX12_comes G l _ _ _ _ _ hw) mo_X12_comes ml_X12_329 (by rfl) rfl rfl (as := [(0, a1), (0, a2)]) rfl rfl rfl rfl rfl ⟨Nat.zero_le _, Nat.zero_le _⟩ dX12_come_36 (fun x14 h13 hw => ?_)
      refine V.pop hc dX12_come_39 (by show (0 : Nat) ≠ 2; omega) ?_
      refine V.aload_n (t := 12) hc dX12_come_40 rfl rfl ?_
      refine V.gR hc gR_X12_43 (i' := o) rfl dX12_come_41 ?_
      refine V.sipush hc dX12_come_44 (by decide) ?_
      refine V.iload_n hc dX12_come_47 rfl rfl ?_
      refine V.imul hc dX12_come_48 ?_
      refine V.bipush hc dX12_come_49 (by decide) ?_
      refine V.iadd hc dX12_come_51 ?_
      obtain ⟨g15, hw⟩ := hw
      refine V.ald hc ak_56 g15 dX12_come_52 ?_
      exact V.iret hc hr dX12_come_53 hw
    · replace hw := hw.2 c11
      refine V.aload_n (t := 12) hc dX12_come_23 rfl rfl ?_
      refine V.iconst hc dX12_come_24 ?_
      refine V.callVI hc (qX12_refuse G l _ _ _ _ hw) mo_X12_refuse ml_X12_369 (by rfl) rfl rfl (as := [(0, 1)]) rfl rfl rfl rfl rfl ⟨Nat.zero_le _, Nat.zero_le _⟩ dX12_come_25 (fun x17 h16 hw => ?_)
      exact V.iret hc hr dX12_come_28 hw
theorem qX12_units (G : GG) (l : Launch) (o : Int) (a1 : Int) (h : HP) (P : Int → HP → Prop) (hw : wX12_units o a1 h P) : CnI l G yX12_units cX12_units 2 (some .int) 41 [(22, o), (0, a1)] h P := by
  refine CnI.of (lo := [(22, o), (0, a1)]) (by decide) rfl rfl rfl ?_
  intro p e s m args below meth c hc hr
  have hc : VC G p (rmD 41 0) s m args meth c RX12 cX12_units 2 41 := hc
  refine V.aload_n (t := 12) hc dX12_units_0 rfl rfl ?_
  refine V.iconst hc dX12_units_1 ?_
  refine V.pI hc pI_X12_118 rfl dX12_units_2 (fun h1 e => ?_)
  replace hw := hw h1 e
  clear e
  refine V.iload_n hc dX12_units_5 rfl rfl ?_
  refine V.iconst hc dX12_units_6 ?_
  refine V.bipush hc dX12_units_7 (by decide) ?_
  refine V.callSI hc (qX12_isIn G l _ _ _ _ _ hw) mo_X12_isIn ml_X12_356 (as := [(0, a1), (0, 1), (0, 100)]) rfl rfl rfl rfl rfl ⟨Nat.zero_le _, Nat.zero_le _⟩ dX12_units_9 (fun x3 h2 hw => ?_)
  obtain ⟨g4, hw⟩ := hw
  refine V.if_eq hc (tgt := 31) dX12_units_12 (by decide) g4 (fun c5 => ?_) (fun c5 => ?_)
  · replace hw := hw.1 c5
    refine V.aload_n (t := 12) hc dX12_units_31 rfl rfl ?_
    refine V.iconst hc dX12_units_32 ?_
    refine V.callVI hc (qX12_refuse G l _ _ _ _ hw) mo_X12_refuse ml_X12_369 (by rfl) rfl rfl (as := [(0, 1)]) rfl rfl rfl rfl rfl ⟨Nat.zero_le _, Nat.zero_le _⟩ dX12_units_33 (fun x7 h6 hw => ?_)
    exact V.iret hc hr dX12_units_36 hw
  · replace hw := hw.2 c5
    refine V.aload_n (t := 12) hc dX12_units_15 rfl rfl ?_
    refine V.gR hc gR_X12_43 (i' := o) rfl dX12_units_16 ?_
    refine V.sipush hc dX12_units_19 (by decide) ?_
    refine V.ald hc ak_56 (by omega) dX12_units_22 ?_
    refine V.iload_n hc dX12_units_23 rfl rfl ?_
    refine V.iadd hc dX12_units_24 ?_
    refine V.sipush hc dX12_units_25 (by decide) ?_
    obtain ⟨g8, hw⟩ := hw
    refine V.icmp_le hc (tgt := 37) dX12_units_28 (by decide) g8 (by omega) (fun c9 => ?_) (fun c9 => ?_)
    · replace hw := hw.1 c9
      refine V.aload_n (t := 12) hc dX12_units_37 rfl rfl ?_
      refine V.callVV hc (qX12_keep G l _ _ _ hw) mo_X12_keep ml_X12_372 (by rfl) rfl rfl (as := []) rfl rfl rfl rfl rfl ⟨Nat.zero_le _, Nat.zero_le _⟩ dX12_units_38 (fun h10 hw => ?_)
      refine V.aload_n (t := 12) hc dX12_units_41 rfl rfl ?_
      refine V.iload_n hc dX12_units_42 rfl rfl ?_
      refine V.callVV hc (qX12_goOn G l _ _ _ _ hw) mo_X12_goOn ml_X12_375 (by rfl) rfl rfl (as := [(0, a1)]) rfl rfl rfl rfl rfl ⟨Nat.zero_le _, Nat.zero_le _⟩ dX12_units_43 (fun h11 hw => ?_)
      refine V.aload_n (t := 12) hc dX12_units_46 rfl rfl ?_
      refine V.gR hc gR_X12_43 (i' := o) rfl dX12_units_47 ?_
      refine V.sipush hc dX12_units_50 (by decide) ?_
      refine V.ald hc ak_56 (by omega) dX12_units_53 ?_
      exact V.iret hc hr dX12_units_54 hw
    · replace hw := hw.2 c9
      refine V.aload_n (t := 12) hc dX12_units_31 rfl rfl ?_
      refine V.iconst hc dX12_units_32 ?_
      refine V.callVI hc (qX12_refuse G l _ _ _ _ hw) mo_X12_refuse ml_X12_369 (by rfl) rfl rfl (as := [(0, 1)]) rfl rfl rfl rfl rfl ⟨Nat.zero_le _, Nat.zero_le _⟩ dX12_units_33 (fun x13 h12 hw => ?_)
      exact V.iret hc hr dX12_units_36 hw
theorem qX12_bend (G : GG) (l : Launch) (o : Int) (a1 : Int) (a2 : Int) (a3 : Int) (a4 : Int) (a5 : Int) (h : HP) (P : HP → Prop) (hw : wX12_bend o a1 a2 a3 a4 a5 h P) : CnV l G yX12_bend cX12_bend 7 22 [(22, o), (0, a1), (0, a2), (0, a3), (0, a4), (0, a5)] h P := by
  refine CnV.of (lo := [(22, o), (0, a1), (0, a2), (0, a3), (0, a4), (0, a5), (1, 0)]) (by decide) rfl rfl rfl ?_
  intro p e s m args below meth c hc hr
  have hc : VC G p (rmD 22 0) s m args meth c RX12 cX12_bend 7 22 := hc
  refine V.iload_n hc dX12_bend_0 rfl rfl ?_
  refine V.iload_n hc dX12_bend_1 rfl rfl ?_
  refine V.callSI hc (qX12_curveAt G l _ _ _ _ hw) mo_X12_curveAt ml_X12_245 (as := [(0, a1), (0, a2)]) rfl rfl rfl rfl rfl ⟨Nat.zero_le _, Nat.zero_le _⟩ dX12_bend_2 (fun x2 h1 hw => ?_)
  refine V.istore hc dX12_bend_5 rfl (lo' := [(22, o), (0, a1), (0, a2), (0, a3), (0, a4), (0, a5), (0, x2)]) rfl ?_
  refine V.aload_n (t := 12) hc dX12_bend_7 rfl rfl ?_
  refine V.gR hc gR_X12_43 (i' := o) rfl dX12_bend_8 ?_
  refine V.iload hc dX12_bend_11 rfl ?_
  refine V.iconst hc dX12_bend_13 ?_
  obtain ⟨g4, hw⟩ := hw
  refine V.ast hc ak_56 g4 dX12_bend_14 (fun h3 e => ?_)
  replace hw := hw h3 e
  clear e
  refine V.aload_n (t := 12) hc dX12_bend_15 rfl rfl ?_
  refine V.gR hc gR_X12_43 (i' := o) rfl dX12_bend_16 ?_
  refine V.iload hc dX12_bend_19 rfl ?_
  refine V.iconst hc dX12_bend_21 ?_
  refine V.iadd hc dX12_bend_22 ?_
  refine V.iload_n hc dX12_bend_23 rfl rfl ?_
  obtain ⟨g6, hw⟩ := hw
  refine V.ast hc ak_56 g6 dX12_bend_24 (fun h5 e => ?_)
  replace hw := hw h5 e
  clear e
  refine V.aload_n (t := 12) hc dX12_bend_25 rfl rfl ?_
  refine V.gR hc gR_X12_43 (i' := o) rfl dX12_bend_26 ?_
  refine V.iload hc dX12_bend_29 rfl ?_
  refine V.iconst hc dX12_bend_31 ?_
  refine V.iadd hc dX12_bend_32 ?_
  refine V.iload hc dX12_bend_33 rfl ?_
  obtain ⟨g8, hw⟩ := hw
  refine V.ast hc ak_56 g8 dX12_bend_35 (fun h7 e => ?_)
  replace hw := hw h7 e
  clear e
  refine V.aload_n (t := 12) hc dX12_bend_36 rfl rfl ?_
  refine V.gR hc gR_X12_43 (i' := o) rfl dX12_bend_37 ?_
  refine V.iload hc dX12_bend_40 rfl ?_
  refine V.iconst hc dX12_bend_42 ?_
  refine V.iadd hc dX12_bend_43 ?_
  refine V.iload hc dX12_bend_44 rfl ?_
  obtain ⟨g10, hw⟩ := hw
  refine V.ast hc ak_56 g10 dX12_bend_46 (fun h9 e => ?_)
  replace hw := hw h9 e
  clear e
  refine V.aload_n (t := 12) hc dX12_bend_47 rfl rfl ?_
  refine V.gR hc gR_X12_43 (i' := o) rfl dX12_bend_48 ?_
  refine V.iload_n hc dX12_bend_51 rfl rfl ?_
  refine V.iload_n hc dX12_bend_52 rfl rfl ?_
  refine V.callSI hc (qX12_laidAt G l _ _ _ _ hw) mo_X12_laidAt ml_X12_248 (as := [(0, a1), (0, a2)]) rfl rfl rfl rfl rfl ⟨Nat.zero_le _, Nat.zero_le _⟩ dX12_bend_53 (fun x12 h11 hw => ?_)
  refine V.iconst hc dX12_bend_56 ?_
  obtain ⟨g14, hw⟩ := hw
  refine V.ast hc ak_56 g14 dX12_bend_57 (fun h13 e => ?_)
  replace hw := hw h13 e
  clear e
  refine V.aload_n (t := 12) hc dX12_bend_58 rfl rfl ?_
  refine V.iload_n hc dX12_bend_59 rfl rfl ?_
  refine V.callVI hc (qX12_isActive G l 13 _ _ _ _ hw) mo_X12_isActive ml_X12_262 (by rfl) rfl rfl (as := [(0, a1)]) rfl rfl rfl rfl rfl ⟨Nat.zero_le _, Nat.zero_le _⟩ dX12_bend_60 (fun x16 h15 hw => ?_)
  obtain ⟨g17, hw⟩ := hw
  refine V.if_eq hc (tgt := 101) dX12_bend_63 (by decide) g17 (fun c18 => ?_) (fun c18 => ?_)
  · replace hw := hw.1 c18
    exact V.vret hc hr dX12_bend_101 hw
  · replace hw := hw.2 c18
    refine V.aload_n (t := 12) hc dX12_bend_66 rfl rfl ?_
    refine V.iload_n hc dX12_bend_67 rfl rfl ?_
    refine V.iload_n hc dX12_bend_68 rfl rfl ?_
    refine V.iload_n hc dX12_bend_69 rfl rfl ?_
    refine V.iconst hc dX12_bend_70 ?_
    obtain ⟨q22, hw⟩ := hw
    have kJ24 : ∀ t21 : Int, ((¬ a2 = 1 → t21 = h15 56 o 3084) ∧ (a2 = 1 → t21 = h15 56 o ((257 * a1) + 14))) → V G p l e (rmD 22 0) s m args below meth c (MQ below (QV G P) args s 0 0 (va_Aof G)) 7 98 [(1, 0), (1, 0), (1, 0), (1, 0), (1, 0), (1, 0), (1, 0)] [(0, t21), (0, a2), (0, a1), (22, o)] h15 0 := by
      intro t21 he
      replace hw := hw t21 he
      clear he
      refine V.callVV hc (qX12_lay G l _ _ _ _ _ _ hw) mo_X12_lay ml_X12_279 (by rfl) rfl rfl (as := [(0, a1), (0, a2), (0, t21)]) rfl rfl rfl rfl rfl ⟨Nat.zero_le _, Nat.zero_le _⟩ dX12_bend_98 (fun h23 hw => ?_)
      exact V.vret hc hr dX12_bend_101 hw
    obtain ⟨g19, q25⟩ := q22
    refine V.icmp_ne hc (tgt := 90) dX12_bend_71 (by decide) g19 (by omega) (fun c26 => ?_) (fun c26 => ?_)
    · refine V.aload_n (t := 12) hc dX12_bend_90 rfl rfl ?_
      refine V.gR hc gR_X12_43 (i' := o) rfl dX12_bend_91 ?_
      refine V.sipush hc dX12_bend_94 (by decide) ?_
      refine V.ald hc ak_56 (by omega) dX12_bend_97 ?_
      refine V.drop (lo' := [(1, 0), (1, 0), (1, 0), (1, 0), (1, 0), (1, 0), (1, 0)]) ⟨Or.inl rfl, Or.inl rfl, Or.inl rfl, Or.inl rfl, Or.inl rfl, Or.inl rfl, Or.inl rfl, trivial⟩ ?_
      exact kJ24 _ ⟨fun _ => rfl, (fun q => absurd q c26)⟩
    · have q27 := q25 c26
      have g20 := q27
      refine V.aload_n (t := 12) hc dX12_bend_74 rfl rfl ?_
      refine V.gR hc gR_X12_43 (i' := o) rfl dX12_bend_75 ?_
      refine V.sipush hc dX12_bend_78 (by decide) ?_
      refine V.iload_n hc dX12_bend_81 rfl rfl ?_
      refine V.imul hc dX12_bend_82 ?_
      refine V.bipush hc dX12_bend_83 (by decide) ?_
      refine V.iadd hc dX12_bend_85 ?_
      refine V.ald hc ak_56 g20 dX12_bend_86 ?_
      refine V.goto hc (tgt := 98) dX12_bend_87 (by decide) ?_
      refine V.drop (lo' := [(1, 0), (1, 0), (1, 0), (1, 0), (1, 0), (1, 0), (1, 0)]) ⟨Or.inl rfl, Or.inl rfl, Or.inl rfl, Or.inl rfl, Or.inl rfl, Or.inl rfl, Or.inl rfl, trivial⟩ ?_
      exact kJ24 _ ⟨(fun q => absurd c26 q), fun _ => rfl⟩
theorem qX12_isSo (G : GG) (l : Launch) (o : Int) (a1 : Int) (a2 : Int) (a3 : Int) (a4 : Int) (h : HP) (P : Int → HP → Prop) (hw : wX12_isSo o a1 a2 a3 a4 h P) : CnI l G yX12_isSo cX12_isSo 5 (some .boolean) 8 [(22, o), (0, a1), (0, a2), (0, a3), (0, a4)] h P := by
  refine CnI.of (lo := [(22, o), (0, a1), (0, a2), (0, a3), (0, a4)]) (by decide) rfl rfl rfl ?_
  intro p e s m args below meth c hc hr
  have hc : VC G p (rmD 8 0) s m args meth c RX12 cX12_isSo 5 8 := hc
  refine V.aload_n (t := 12) hc dX12_isSo_0 rfl rfl ?_
  refine V.gR hc gR_X12_43 (i' := o) rfl dX12_isSo_1 ?_
  refine V.iload_n hc dX12_isSo_4 rfl rfl ?_
  obtain ⟨g1, hw⟩ := hw
  refine V.ald hc ak_56 g1 dX12_isSo_5 ?_
  refine V.iconst hc dX12_isSo_6 ?_
  obtain ⟨q13, hw⟩ := hw
  have kJ15 : ∀ t12 : Int, ((¬ h 56 o a1 = 1 → t12 = 0) ∧ (h 56 o a1 = 1 → ((¬ h 56 o (a1 + 1) = a2 → t12 = 0) ∧ (h 56 o (a1 + 1) = a2 → ((¬ h 56 o (a1 + 2) = a3 → t12 = 0) ∧ (h 56 o (a1 + 2) = a3 → ((¬ h 56 o (a1 + 3) = a4 → t12 = 0) ∧ (h 56 o (a1 + 3) = a4 → t12 = 1)))))))) → V G p l e (rmD 8 0) s m args below meth c (MQ below (QI G P) args s 0 0 (va_Aof G)) 5 52 [(1, 0), (1, 0), (1, 0), (1, 0), (1, 0)] [(0, t12)] h 0 := by
    intro t12 he
    replace hw := hw t12 he
    clear he
    obtain ⟨g14, hw⟩ := hw
    exact V.zret hc hr dX12_isSo_52 g14 hw
  obtain ⟨g2, q16⟩ := q13
  refine V.icmp_ne hc (tgt := 51) dX12_isSo_7 (by decide) g2 (by omega) (fun c17 => ?_) (fun c17 => ?_)
  · refine V.iconst hc dX12_isSo_51 ?_
    refine V.drop (lo' := [(1, 0), (1, 0), (1, 0), (1, 0), (1, 0)]) ⟨Or.inl rfl, Or.inl rfl, Or.inl rfl, Or.inl rfl, Or.inl rfl, trivial⟩ ?_
    exact kJ15 _ ⟨fun _ => rfl, (fun q => absurd q c17)⟩
  · have q18 := q16 c17
    obtain ⟨g3, g4, g5, q19⟩ := q18
    refine V.aload_n (t := 12) hc dX12_isSo_10 rfl rfl ?_
    refine V.gR hc gR_X12_43 (i' := o) rfl dX12_isSo_11 ?_
    refine V.iload_n hc dX12_isSo_14 rfl rfl ?_
    refine V.iconst hc dX12_isSo_15 ?_
    refine V.iadd hc dX12_isSo_16 ?_
    refine V.ald hc ak_56 g3 dX12_isSo_17 ?_
    refine V.iload_n hc dX12_isSo_18 rfl rfl ?_
    refine V.icmp_ne hc (tgt := 51) dX12_isSo_19 (by decide) g4 g5 (fun c20 => ?_) (fun c20 => ?_)
    · refine V.iconst hc dX12_isSo_51 ?_
      refine V.drop (lo' := [(1, 0), (1, 0), (1, 0), (1, 0), (1, 0)]) ⟨Or.inl rfl, Or.inl rfl, Or.inl rfl, Or.inl rfl, Or.inl rfl, trivial⟩ ?_
      exact kJ15 _ ⟨(fun q => absurd c17 q), fun _ => ⟨fun _ => rfl, (fun q => absurd q c20)⟩⟩
    · have q21 := q19 c20
      obtain ⟨g6, g7, g8, q22⟩ := q21
      refine V.aload_n (t := 12) hc dX12_isSo_22 rfl rfl ?_
      refine V.gR hc gR_X12_43 (i' := o) rfl dX12_isSo_23 ?_
      refine V.iload_n hc dX12_isSo_26 rfl rfl ?_
      refine V.iconst hc dX12_isSo_27 ?_
      refine V.iadd hc dX12_isSo_28 ?_
      refine V.ald hc ak_56 g6 dX12_isSo_29 ?_
      refine V.iload_n hc dX12_isSo_30 rfl rfl ?_
      refine V.icmp_ne hc (tgt := 51) dX12_isSo_31 (by decide) g7 g8 (fun c23 => ?_) (fun c23 => ?_)
      · refine V.iconst hc dX12_isSo_51 ?_
        refine V.drop (lo' := [(1, 0), (1, 0), (1, 0), (1, 0), (1, 0)]) ⟨Or.inl rfl, Or.inl rfl, Or.inl rfl, Or.inl rfl, Or.inl rfl, trivial⟩ ?_
        exact kJ15 _ ⟨(fun q => absurd c17 q), fun _ => ⟨(fun q => absurd c20 q), fun _ => ⟨fun _ => rfl, (fun q => absurd q c23)⟩⟩⟩
      · have q24 := q22 c23
        obtain ⟨g9, g10, g11⟩ := q24
        refine V.aload_n (t := 12) hc dX12_isSo_34 rfl rfl ?_
        refine V.gR hc gR_X12_43 (i' := o) rfl dX12_isSo_35 ?_
        refine V.iload_n hc dX12_isSo_38 rfl rfl ?_
        refine V.iconst hc dX12_isSo_39 ?_
        refine V.iadd hc dX12_isSo_40 ?_
        refine V.ald hc ak_56 g9 dX12_isSo_41 ?_
        refine V.iload hc dX12_isSo_42 rfl ?_
        refine V.icmp_ne hc (tgt := 51) dX12_isSo_44 (by decide) g10 g11 (fun c25 => ?_) (fun c25 => ?_)
        · refine V.iconst hc dX12_isSo_51 ?_
          refine V.drop (lo' := [(1, 0), (1, 0), (1, 0), (1, 0), (1, 0)]) ⟨Or.inl rfl, Or.inl rfl, Or.inl rfl, Or.inl rfl, Or.inl rfl, trivial⟩ ?_
          exact kJ15 _ ⟨(fun q => absurd c17 q), fun _ => ⟨(fun q => absurd c20 q), fun _ => ⟨(fun q => absurd c23 q), fun _ => ⟨fun _ => rfl, (fun q => absurd q c25)⟩⟩⟩⟩
        · refine V.iconst hc dX12_isSo_47 ?_
          refine V.goto hc (tgt := 52) dX12_isSo_48 (by decide) ?_
          refine V.drop (lo' := [(1, 0), (1, 0), (1, 0), (1, 0), (1, 0)]) ⟨Or.inl rfl, Or.inl rfl, Or.inl rfl, Or.inl rfl, Or.inl rfl, trivial⟩ ?_
          exact kJ15 _ ⟨(fun q => absurd c17 q), fun _ => ⟨(fun q => absurd c20 q), fun _ => ⟨(fun q => absurd c23 q), fun _ => ⟨(fun q => absurd c25 q), fun _ => rfl⟩⟩⟩⟩
theorem tX12_change_78 {G : GG} {p : Program} {l : Launch} {e : Jvm.Env} {s : State} {m : MethodId} {args : Array Value} {below : List Frame} {meth : Method} {c : Code} {P : Int → HP → Prop} (hc : VC G p (rmD 23 0) s m args meth c RX12 cX12_change 8 23) (hr : meth.sig.returnType = some .int) {o : Int} {a1 : Int} {a2 : Int} {a3 : Int} {a4 : Int} {a5 : Int} {h : HP} (hw : wX12_change_78 o a1 a2 a3 a4 a5 P h) : V G p l e (rmD 23 0) s m args below meth c (MQ below (QI G P) args s 0 0 (va_Aof G)) 8 78 [(22, o), (0, a1), (0, a2), (0, a3), (0, a4), (0, a5), (1, 0), (1, 0)] [] h 0 := by
  refine V.aload_n (t := 12) hc dX12_change_78 rfl rfl ?_
  refine V.iload_n hc dX12_change_79 rfl rfl ?_
  refine V.iload_n hc dX12_change_80 rfl rfl ?_
  refine V.callSI hc (qX12_curveAt G l _ _ _ _ hw) mo_X12_curveAt ml_X12_245 (as := [(0, a1), (0, a2)]) rfl rfl rfl rfl rfl ⟨Nat.zero_le _, Nat.zero_le _⟩ dX12_change_81 (fun x13 h12 hw => ?_)
  refine V.iload_n hc dX12_change_84 rfl rfl ?_
  refine V.iload hc dX12_change_85 rfl ?_
  refine V.iload hc dX12_change_87 rfl ?_
  refine V.callVI hc (qX12_isSo G l _ _ _ _ _ _ _ hw) mo_X12_isSo ml_X12_378 (by rfl) rfl rfl (as := [(0, x13), (0, a3), (0, a4), (0, a5)]) rfl rfl rfl rfl rfl ⟨Nat.zero_le _, Nat.zero_le _⟩ dX12_change_89 (fun x15 h14 hw => ?_)
  obtain ⟨g16, hw⟩ := hw
  refine V.if_eq hc (tgt := 101) dX12_change_92 (by decide) g16 (fun c17 => ?_) (fun c17 => ?_)
  · replace hw := hw.1 c17
    refine V.aload_n (t := 12) hc dX12_change_101 rfl rfl ?_
    refine V.callVV hc (qX12_keep G l _ _ _ hw) mo_X12_keep ml_X12_372 (by rfl) rfl rfl (as := []) rfl rfl rfl rfl rfl ⟨Nat.zero_le _, Nat.zero_le _⟩ dX12_change_102 (fun h18 hw => ?_)
    refine V.aload_n (t := 12) hc dX12_change_105 rfl rfl ?_
    refine V.gR hc gR_X12_43 (i' := o) rfl dX12_change_106 ?_
    refine V.iload_n hc dX12_change_109 rfl rfl ?_
    refine V.iload_n hc dX12_change_110 rfl rfl ?_
    refine V.callSI hc (qX12_curveAt G l _ _ _ _ hw) mo_X12_curveAt ml_X12_245 (as := [(0, a1), (0, a2)]) rfl rfl rfl rfl rfl ⟨Nat.zero_le _, Nat.zero_le _⟩ dX12_change_111 (fun x20 h19 hw => ?_)
    obtain ⟨g21, hw⟩ := hw
    refine V.ald hc ak_56 g21 dX12_change_114 ?_
    refine V.istore hc dX12_change_115 rfl (lo' := [(22, o), (0, a1), (0, a2), (0, a3), (0, a4), (0, a5), (1, 0), (0, h19 56 o x20)]) rfl ?_
    refine V.aload_n (t := 12) hc dX12_change_117 rfl rfl ?_
    refine V.iload_n hc dX12_change_118 rfl rfl ?_
    refine V.iload_n hc dX12_change_119 rfl rfl ?_
    refine V.iload_n hc dX12_change_120 rfl rfl ?_
    refine V.iload hc dX12_change_121 rfl ?_
    refine V.iload hc dX12_change_123 rfl ?_
    refine V.callVV hc (qX12_bend G l _ _ _ _ _ _ _ _ hw) mo_X12_bend ml_X12_382 (by rfl) rfl rfl (as := [(0, a1), (0, a2), (0, a3), (0, a4), (0, a5)]) rfl rfl rfl rfl rfl ⟨Nat.zero_le _, Nat.zero_le _⟩ dX12_change_125 (fun h22 hw => ?_)
    refine V.iload hc dX12_change_128 rfl ?_
    exact V.iret hc hr dX12_change_130 hw
  · replace hw := hw.2 c17
    refine V.aload_n (t := 12) hc dX12_change_95 rfl rfl ?_
    refine V.iconst hc dX12_change_96 ?_
    refine V.callVI hc (qX12_refuse G l _ _ _ _ hw) mo_X12_refuse ml_X12_369 (by rfl) rfl rfl (as := [(0, 1)]) rfl rfl rfl rfl rfl ⟨Nat.zero_le _, Nat.zero_le _⟩ dX12_change_97 (fun x24 h23 hw => ?_)
    exact V.iret hc hr dX12_change_100 hw
theorem tX12_change_59 {G : GG} {p : Program} {l : Launch} {e : Jvm.Env} {s : State} {m : MethodId} {args : Array Value} {below : List Frame} {meth : Method} {c : Code} {P : Int → HP → Prop} (hc : VC G p (rmD 23 0) s m args meth c RX12 cX12_change 8 23) (hr : meth.sig.returnType = some .int) {o : Int} {a1 : Int} {a2 : Int} {a3 : Int} {a4 : Int} {a5 : Int} {s0 : Int} {h : HP} (hw : wX12_change_59 o a1 a2 a3 a4 a5 s0 P h) : V G p l e (rmD 23 0) s m args below meth c (MQ below (QI G P) args s 0 0 (va_Aof G)) 8 59 [(22, o), (0, a1), (0, a2), (0, a3), (0, a4), (0, a5), (1, 0), (1, 0)] [(0, s0)] h 0 := by
  refine V.istore hc dX12_change_59 rfl (lo' := [(22, o), (0, a1), (0, a2), (0, a3), (0, a4), (0, a5), (0, s0), (1, 0)]) rfl ?_
  refine V.iload hc dX12_change_61 rfl ?_
  obtain ⟨g6, hw⟩ := hw
  refine V.if_eq hc (tgt := 95) dX12_change_63 (by decide) g6 (fun c7 => ?_) (fun c7 => ?_)
  · replace hw := hw.1 c7
    refine V.aload_n (t := 12) hc dX12_change_95 rfl rfl ?_
    refine V.iconst hc dX12_change_96 ?_
    refine V.callVI hc (qX12_refuse G l _ _ _ _ hw) mo_X12_refuse ml_X12_369 (by rfl) rfl rfl (as := [(0, 1)]) rfl rfl rfl rfl rfl ⟨Nat.zero_le _, Nat.zero_le _⟩ dX12_change_97 (fun x9 h8 hw => ?_)
    exact V.iret hc hr dX12_change_100 hw
  · replace hw := hw.2 c7
    refine V.iload_n hc dX12_change_66 rfl rfl ?_
    obtain ⟨g10, hw⟩ := hw
    refine V.if_ne hc (tgt := 78) dX12_change_67 (by decide) g10 (fun c11 => ?_) (fun c11 => ?_)
    · replace hw := hw.1 c11
      refine V.drop (lo' := [(22, o), (0, a1), (0, a2), (0, a3), (0, a4), (0, a5), (1, 0), (1, 0)]) ⟨Or.inr rfl, Or.inr rfl, Or.inr rfl, Or.inr rfl, Or.inr rfl, Or.inr rfl, Or.inl rfl, Or.inr rfl, trivial⟩ ?_
      exact tX12_change_78 hc hr  hw
    · replace hw := hw.2 c11
      refine V.aload_n (t := 12) hc dX12_change_70 rfl rfl ?_
      refine V.iload_n hc dX12_change_71 rfl rfl ?_
      refine V.callVI hc (qX12_isLeaf G l _ _ _ _ hw) mo_X12_isLeaf ml_X12_305 (by rfl) rfl rfl (as := [(0, a1)]) rfl rfl rfl rfl rfl ⟨Nat.zero_le _, Nat.zero_le _⟩ dX12_change_72 (fun x26 h25 hw => ?_)
      obtain ⟨g27, hw⟩ := hw
      refine V.if_eq hc (tgt := 95) dX12_change_75 (by decide) g27 (fun c28 => ?_) (fun c28 => ?_)
      · replace hw := hw.1 c28
        refine V.aload_n (t := 12) hc dX12_change_95 rfl rfl ?_
        refine V.iconst hc dX12_change_96 ?_
        refine V.callVI hc (qX12_refuse G l _ _ _ _ hw) mo_X12_refuse ml_X12_369 (by rfl) rfl rfl (as := [(0, 1)]) rfl rfl rfl rfl rfl ⟨Nat.zero_le _, Nat.zero_le _⟩ dX12_change_97 (fun x30 h29 hw => ?_)
        exact V.iret hc hr dX12_change_100 hw
      · replace hw := hw.2 c28
        refine V.drop (lo' := [(22, o), (0, a1), (0, a2), (0, a3), (0, a4), (0, a5), (1, 0), (1, 0)]) ⟨Or.inr rfl, Or.inr rfl, Or.inr rfl, Or.inr rfl, Or.inr rfl, Or.inr rfl, Or.inl rfl, Or.inr rfl, trivial⟩ ?_
        exact tX12_change_78 hc hr  hw
theorem tX12_change_58 {G : GG} {p : Program} {l : Launch} {e : Jvm.Env} {s : State} {m : MethodId} {args : Array Value} {below : List Frame} {meth : Method} {c : Code} {P : Int → HP → Prop} (hc : VC G p (rmD 23 0) s m args meth c RX12 cX12_change 8 23) (hr : meth.sig.returnType = some .int) {o : Int} {a1 : Int} {a2 : Int} {a3 : Int} {a4 : Int} {a5 : Int} {h : HP} (hw : wX12_change_58 o a1 a2 a3 a4 a5 P h) : V G p l e (rmD 23 0) s m args below meth c (MQ below (QI G P) args s 0 0 (va_Aof G)) 8 58 [(22, o), (0, a1), (0, a2), (0, a3), (0, a4), (0, a5), (1, 0), (1, 0)] [] h 0 := by
  refine V.iconst hc dX12_change_58 ?_
  exact tX12_change_59 hc hr  hw
theorem qX12_change (G : GG) (l : Launch) (o : Int) (a1 : Int) (a2 : Int) (a3 : Int) (a4 : Int) (a5 : Int) (h : HP) (P : Int → HP → Prop) (hw : wX12_change o a1 a2 a3 a4 a5 h P) : CnI l G yX12_change cX12_change 8 (some .int) 23 [(22, o), (0, a1), (0, a2), (0, a3), (0, a4), (0, a5)] h P := by
  refine CnI.of (lo := [(22, o), (0, a1), (0, a2), (0, a3), (0, a4), (0, a5), (1, 0), (1, 0)]) (by decide) rfl rfl rfl ?_
  intro p e s m args below meth c hc hr
  have hc : VC G p (rmD 23 0) s m args meth c RX12 cX12_change 8 23 := hc
  refine V.aload_n (t := 12) hc dX12_change_0 rfl rfl ?_
  refine V.iconst hc dX12_change_1 ?_
  refine V.pI hc pI_X12_118 rfl dX12_change_2 (fun h1 e => ?_)
  replace hw := hw h1 e
  clear e
  refine V.aload_n (t := 12) hc dX12_change_5 rfl rfl ?_
  refine V.iload_n hc dX12_change_6 rfl rfl ?_
  refine V.callVI hc (qX12_isClass G l _ _ _ _ hw) mo_X12_isClass ml_X12_360 (by rfl) rfl rfl (as := [(0, a1)]) rfl rfl rfl rfl rfl ⟨Nat.zero_le _, Nat.zero_le _⟩ dX12_change_7 (fun x3 h2 hw => ?_)
  obtain ⟨g4, hw⟩ := hw
  refine V.if_eq hc (tgt := 58) dX12_change_10 (by decide) g4 (fun c5 => ?_) (fun c5 => ?_)
  · replace hw := hw.1 c5
    exact tX12_change_58 hc hr  hw
  · replace hw := hw.2 c5
    refine V.iload_n hc dX12_change_13 rfl rfl ?_
    refine V.iconst hc dX12_change_14 ?_
    refine V.iconst hc dX12_change_15 ?_
    refine V.callSI hc (qX12_isIn G l _ _ _ _ _ hw) mo_X12_isIn ml_X12_356 (as := [(0, a2), (0, 0), (0, 2)]) rfl rfl rfl rfl rfl ⟨Nat.zero_le _, Nat.zero_le _⟩ dX12_change_16 (fun x32 h31 hw => ?_)
    obtain ⟨g33, hw⟩ := hw
    refine V.if_eq hc (tgt := 58) dX12_change_19 (by decide) g33 (fun c34 => ?_) (fun c34 => ?_)
    · replace hw := hw.1 c34
      exact tX12_change_58 hc hr  hw
    · replace hw := hw.2 c34
      refine V.iload_n hc dX12_change_22 rfl rfl ?_
      refine V.iconst hc dX12_change_23 ?_
      refine V.bipush hc dX12_change_24 (by decide) ?_
      refine V.callSI hc (qX12_isIn G l _ _ _ _ _ hw) mo_X12_isIn ml_X12_356 (as := [(0, a3), (0, 0), (0, 100)]) rfl rfl rfl rfl rfl ⟨Nat.zero_le _, Nat.zero_le _⟩ dX12_change_26 (fun x36 h35 hw => ?_)
      obtain ⟨g37, hw⟩ := hw
      refine V.if_eq hc (tgt := 58) dX12_change_29 (by decide) g37 (fun c38 => ?_) (fun c38 => ?_)
      · replace hw := hw.1 c38
        exact tX12_change_58 hc hr  hw
      · replace hw := hw.2 c38
        refine V.iload hc dX12_change_32 rfl ?_
        refine V.iconst hc dX12_change_34 ?_
        refine V.bipush hc dX12_change_35 (by decide) ?_
        refine V.callSI hc (qX12_isIn G l _ _ _ _ _ hw) mo_X12_isIn ml_X12_356 (as := [(0, a4), (0, 0), (0, 30)]) rfl rfl rfl rfl rfl ⟨Nat.zero_le _, Nat.zero_le _⟩ dX12_change_37 (fun x40 h39 hw => ?_)
        obtain ⟨g41, hw⟩ := hw
        refine V.if_eq hc (tgt := 58) dX12_change_40 (by decide) g41 (fun c42 => ?_) (fun c42 => ?_)
        · replace hw := hw.1 c42
          exact tX12_change_58 hc hr  hw
        · replace hw := hw.2 c42
          refine V.iload hc dX12_change_43 rfl ?_
          refine V.iconst hc dX12_change_45 ?_
          refine V.bipush hc dX12_change_46 (by decide) ?_
          refine V.callSI hc (qX12_isIn G l _ _ _ _ _ hw) mo_X12_isIn ml_X12_356 (as := [(0, a5), (0, 1), (0, 100)]) rfl rfl rfl rfl rfl ⟨Nat.zero_le _, Nat.zero_le _⟩ dX12_change_48 (fun x44 h43 hw => ?_)
          obtain ⟨g45, hw⟩ := hw
          refine V.if_eq hc (tgt := 58) dX12_change_51 (by decide) g45 (fun c46 => ?_) (fun c46 => ?_)
          · replace hw := hw.1 c46
            exact tX12_change_58 hc hr  hw
          · replace hw := hw.2 c46
            refine V.iconst hc dX12_change_54 ?_
            refine V.goto hc (tgt := 59) dX12_change_55 (by decide) ?_
            exact tX12_change_59 hc hr  hw
theorem tX12_drop_2 {G : GG} {p : Program} {l : Launch} {e : Jvm.Env} {s : State} {m : MethodId} {args : Array Value} {below : List Frame} {meth : Method} {c : Code} {P : HP → Prop} (hc : VC G p (rmD 8 0) s m args meth c RX12 cX12_drop 3 8) (hr : meth.sig.returnType = none) {o : Int} {a1 : Int} {K30 : HP → Prop} (hK30 : ∀  (h : HP), K30  h → V G p l e (rmD 8 0) s m args below meth c (MQ below (QV G P) args s 0 0 (va_Aof G)) 3 30 [(22, o), (0, a1), (1, 0)] [] h 0) : ∀ (f : Nat) (l2 : Int) (h : HP), wX12_drop_2 o a1 K30 f l2 h → V G p l e (rmD 8 0) s m args below meth c (MQ below (QV G P) args s 0 0 (va_Aof G)) 3 2 [(22, o), (0, a1), (0, l2)] [] h 0 := by
  intro f
  induction f with
  | zero =>
    intro l2 h hw
    exact hw.elim
  | succ f ih =>
    intro l2 h hw
    refine V.iload_n hc dX12_drop_2 rfl rfl ?_
    refine V.bipush hc dX12_drop_3 (by decide) ?_
    obtain ⟨g1, hw⟩ := hw
    refine V.icmp_ge hc (tgt := 30) dX12_drop_5 (by decide) g1 (by omega) (fun c2 => ?_) (fun c2 => ?_)
    · replace hw := hw.1 c2
      refine V.drop (lo' := [(22, o), (0, a1), (1, 0)]) ⟨Or.inr rfl, Or.inr rfl, Or.inl rfl, trivial⟩ ?_
      exact hK30 _ hw
    · replace hw := hw.2 c2
      refine V.aload_n (t := 12) hc dX12_drop_8 rfl rfl ?_
      refine V.gR hc gR_X12_43 (i' := o) rfl dX12_drop_9 ?_
      refine V.sipush hc dX12_drop_12 (by decide) ?_
      refine V.iload_n hc dX12_drop_15 rfl rfl ?_
      refine V.imul hc dX12_drop_16 ?_
      refine V.bipush hc dX12_drop_17 (by decide) ?_
      refine V.iadd hc dX12_drop_19 ?_
      refine V.iload_n hc dX12_drop_20 rfl rfl ?_
      refine V.iadd hc dX12_drop_21 ?_
      refine V.iconst hc dX12_drop_22 ?_
      obtain ⟨g4, hw⟩ := hw
      refine V.ast hc ak_56 g4 dX12_drop_23 (fun h3 e => ?_)
      replace hw := hw h3 e
      clear e
      refine V.iinc hc dX12_drop_24 rfl rfl (lo' := [(22, o), (0, a1), (0, l2 + 1)]) rfl ?_
      refine V.goto hc (tgt := 2) dX12_drop_27 (by decide) ?_
      exact ih _ _ hw
theorem qX12_drop (G : GG) (l : Launch) (o : Int) (a1 : Int) (h : HP) (P : HP → Prop) (hw : wX12_drop o a1 h P) : CnV l G yX12_drop cX12_drop 3 8 [(22, o), (0, a1)] h P := by
  refine CnV.of (lo := [(22, o), (0, a1), (1, 0)]) (by decide) rfl rfl rfl ?_
  intro p e s m args below meth c hc hr
  have hc : VC G p (rmD 8 0) s m args meth c RX12 cX12_drop 3 8 := hc
  refine V.iconst hc dX12_drop_0 ?_
  refine V.istore_n hc dX12_drop_1 rfl rfl (lo' := [(22, o), (0, a1), (0, 0)]) rfl ?_
  obtain ⟨f5, hw⟩ := hw
  refine tX12_drop_2 hc hr ?_ f5 _ _ hw
  · intro h6 hw
    refine V.aload_n (t := 12) hc dX12_drop_30 rfl rfl ?_
    refine V.gR hc gR_X12_43 (i' := o) rfl dX12_drop_31 ?_
    refine V.sipush hc dX12_drop_34 (by decide) ?_
    refine V.iload_n hc dX12_drop_37 rfl rfl ?_
    refine V.imul hc dX12_drop_38 ?_
    refine V.bipush hc dX12_drop_39 (by decide) ?_
    refine V.iadd hc dX12_drop_41 ?_
    refine V.iconst hc dX12_drop_42 ?_
    obtain ⟨g8, hw⟩ := hw
    refine V.ast hc ak_56 g8 dX12_drop_43 (fun h7 e => ?_)
    replace hw := hw h7 e
    clear e
    exact V.vret hc hr dX12_drop_44 hw
theorem qX12_empty (G : GG) (l : Launch) (o : Int) (a1 : Int) (h : HP) (P : Int → HP → Prop) (hw : wX12_empty o a1 h P) : CnI l G yX12_empty cX12_empty 3 (some .int) 10 [(22, o), (0, a1)] h P := by
  refine CnI.of (lo := [(22, o), (0, a1), (1, 0)]) (by decide) rfl rfl rfl ?_
  intro p e s m args below meth c hc hr
  have hc : VC G p (rmD 10 0) s m args meth c RX12 cX12_empty 3 10 := hc
  refine V.aload_n (t := 12) hc dX12_empty_0 rfl rfl ?_
  refine V.iconst hc dX12_empty_1 ?_
  refine V.pI hc pI_X12_118 rfl dX12_empty_2 (fun h1 e => ?_)
  replace hw := hw h1 e
  clear e
  refine V.aload_n (t := 12) hc dX12_empty_5 rfl rfl ?_
  refine V.iload_n hc dX12_empty_6 rfl rfl ?_
  refine V.callVI hc (qX12_isClass G l _ _ _ _ hw) mo_X12_isClass ml_X12_360 (by rfl) rfl rfl (as := [(0, a1)]) rfl rfl rfl rfl rfl ⟨Nat.zero_le _, Nat.zero_le _⟩ dX12_empty_7 (fun x3 h2 hw => ?_)
  obtain ⟨g4, hw⟩ := hw
  refine V.if_eq hc (tgt := 29) dX12_empty_10 (by decide) g4 (fun c5 => ?_) (fun c5 => ?_)
  · replace hw := hw.1 c5
    refine V.aload_n (t := 12) hc dX12_empty_29 rfl rfl ?_
    refine V.iconst hc dX12_empty_30 ?_
    refine V.callVI hc (qX12_refuse G l _ _ _ _ hw) mo_X12_refuse ml_X12_369 (by rfl) rfl rfl (as := [(0, 1)]) rfl rfl rfl rfl rfl ⟨Nat.zero_le _, Nat.zero_le _⟩ dX12_empty_31 (fun x7 h6 hw => ?_)
    exact V.iret hc hr dX12_empty_34 hw
  · replace hw := hw.2 c5
    refine V.aload_n (t := 12) hc dX12_empty_13 rfl rfl ?_
    refine V.gR hc gR_X12_43 (i' := o) rfl dX12_empty_14 ?_
    refine V.sipush hc dX12_empty_17 (by decide) ?_
    refine V.iload_n hc dX12_empty_20 rfl rfl ?_
    refine V.imul hc dX12_empty_21 ?_
    refine V.bipush hc dX12_empty_22 (by decide) ?_
    refine V.iadd hc dX12_empty_24 ?_
    obtain ⟨g8, hw⟩ := hw
    refine V.ald hc ak_56 g8 dX12_empty_25 ?_
    obtain ⟨g9, hw⟩ := hw
    refine V.if_ne hc (tgt := 35) dX12_empty_26 (by decide) g9 (fun c10 => ?_) (fun c10 => ?_)
    · replace hw := hw.1 c10
      refine V.aload_n (t := 12) hc dX12_empty_35 rfl rfl ?_
      refine V.callVV hc (qX12_keep G l _ _ _ hw) mo_X12_keep ml_X12_372 (by rfl) rfl rfl (as := []) rfl rfl rfl rfl rfl ⟨Nat.zero_le _, Nat.zero_le _⟩ dX12_empty_36 (fun h11 hw => ?_)
      refine V.aload_n (t := 12) hc dX12_empty_39 rfl rfl ?_
      refine V.gR hc gR_X12_43 (i' := o) rfl dX12_empty_40 ?_
      refine V.sipush hc dX12_empty_43 (by decide) ?_
      refine V.iload_n hc dX12_empty_46 rfl rfl ?_
      refine V.imul hc dX12_empty_47 ?_
      refine V.bipush hc dX12_empty_48 (by decide) ?_
      refine V.iadd hc dX12_empty_50 ?_
      obtain ⟨g12, hw⟩ := hw
      refine V.ald hc ak_56 g12 dX12_empty_51 ?_
      refine V.istore_n hc dX12_empty_52 rfl rfl (lo' := [(22, o), (0, a1), (0, h11 56 o ((257 * a1) + 17))]) rfl ?_
      refine V.aload_n (t := 12) hc dX12_empty_53 rfl rfl ?_
      refine V.iload_n hc dX12_empty_54 rfl rfl ?_
      refine V.callVV hc (qX12_drop G l _ _ _ _ hw) mo_X12_drop ml_X12_386 (by rfl) rfl rfl (as := [(0, a1)]) rfl rfl rfl rfl rfl ⟨Nat.zero_le _, Nat.zero_le _⟩ dX12_empty_55 (fun h13 hw => ?_)
      refine V.iload_n hc dX12_empty_58 rfl rfl ?_
      exact V.iret hc hr dX12_empty_59 hw
    · replace hw := hw.2 c10
      refine V.aload_n (t := 12) hc dX12_empty_29 rfl rfl ?_
      refine V.iconst hc dX12_empty_30 ?_
      refine V.callVI hc (qX12_refuse G l _ _ _ _ hw) mo_X12_refuse ml_X12_369 (by rfl) rfl rfl (as := [(0, 1)]) rfl rfl rfl rfl rfl ⟨Nat.zero_le _, Nat.zero_le _⟩ dX12_empty_31 (fun x15 h14 hw => ?_)
      exact V.iret hc hr dX12_empty_34 hw
