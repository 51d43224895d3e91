theorem tX12_isLeaf_4 {G : GG} {p : Program} {l : Launch} {e : Jvm.Env} {s : State} {m : MethodId} {args : Array Value} {below : List Frame} {meth : Method} {c : Code} {P : Int → HP → Prop} (hc : VC G p (rmD 8 0) s m args meth c RX12 cX12_isLeaf 3 8) (hr : meth.sig.returnType = some .boolean) {o : Int} {a1 : Int} {h : HP} {K32 : Prop} {K24 : Prop} (hK32 : K32 → V G p l e (rmD 8 0) s m args below meth c (MQ below (QI G P) args s 0 0 (va_Aof G)) 3 32 [(1, 0), (1, 0), (1, 0)] [] h 0) (hK24 : K24 → V G p l e (rmD 8 0) s m args below meth c (MQ below (QI G P) args s 0 0 (va_Aof G)) 3 24 [(1, 0), (1, 0), (1, 0)] [] h 0) : ∀ (f : Nat) (l2 : Int), wX12_isLeaf_4 o a1 h K32 K24 f l2 → V G p l e (rmD 8 0) s m args below meth c (MQ below (QI G P) args s 0 0 (va_Aof G)) 3 4 [(22, o), (0, a1), (0, l2)] [] h 0 := by
  intro f
  induction f with
  | zero =>
    intro l2 hw
    exact hw.elim
  | succ f ih =>
    intro l2 hw
    refine V.iload_n hc dX12_isLeaf_4 rfl rfl ?_
    refine V.aload_n (t := 12) hc dX12_isLeaf_5 rfl rfl ?_
    refine V.gR hc gR_X12_21 (i' := o) rfl dX12_isLeaf_6 ?_
    refine V.iconst hc dX12_isLeaf_9 ?_
    refine V.ald hc ak_49 (by omega) dX12_isLeaf_10 ?_
    obtain ⟨g1, hw⟩ := hw
    obtain ⟨g2, hw⟩ := hw
    refine V.icmp_ge hc (tgt := 32) dX12_isLeaf_11 (by decide) g1 g2 (fun c3 => ?_) (fun c3 => ?_)
    · replace hw := hw.1 c3
      refine V.drop (lo' := [(1, 0), (1, 0), (1, 0)]) ⟨Or.inl rfl, Or.inl rfl, Or.inl rfl, trivial⟩ ?_
      exact hK32 hw
    · replace hw := hw.2 c3
      refine V.aload_n (t := 12) hc dX12_isLeaf_14 rfl rfl ?_
      refine V.gR hc gR_X12_25 (i' := o) rfl dX12_isLeaf_15 ?_
      refine V.iload_n hc dX12_isLeaf_18 rfl rfl ?_
      obtain ⟨g4, hw⟩ := hw
      refine V.ald hc ak_50 g4 dX12_isLeaf_19 ?_
      refine V.iload_n hc dX12_isLeaf_20 rfl rfl ?_
      obtain ⟨g5, hw⟩ := hw
      obtain ⟨g6, hw⟩ := hw
      refine V.icmp_ne hc (tgt := 26) dX12_isLeaf_21 (by decide) g5 g6 (fun c7 => ?_) (fun c7 => ?_)
      · replace hw := hw.1 c7
        refine V.iinc hc dX12_isLeaf_26 rfl rfl (lo' := [(22, o), (0, a1), (0, l2 + 1)]) rfl ?_
        refine V.goto hc (tgt := 4) dX12_isLeaf_29 (by decide) ?_
        exact ih _ hw
      · replace hw := hw.2 c7
        refine V.drop (lo' := [(1, 0), (1, 0), (1, 0)]) ⟨Or.inl rfl, Or.inl rfl, Or.inl rfl, trivial⟩ ?_
        exact hK24 hw
theorem qX12_isLeaf (G : GG) (l : Launch) (o : Int) (a1 : Int) (h : HP) (P : Int → HP → Prop) (hw : wX12_isLeaf o a1 h P) : CnI l G yX12_isLeaf cX12_isLeaf 3 (some .boolean) 8 [(22, o), (0, a1)] h P := by
  refine CnI.of (lo := [(22, o), (0, a1), (1, 0)]) (by decide) rfl rfl rfl ?_
  intro p e s m args below meth c hc hr
  have hc : VC G p (rmD 8 0) s m args meth c RX12 cX12_isLeaf 3 8 := hc
  refine V.iload_n hc dX12_isLeaf_0 rfl rfl ?_
  refine V.iconst hc dX12_isLeaf_1 ?_
  refine V.iadd hc dX12_isLeaf_2 ?_
  refine V.istore_n hc dX12_isLeaf_3 rfl rfl (lo' := [(22, o), (0, a1), (0, a1 + 1)]) rfl ?_
  obtain ⟨f8, hw⟩ := hw
  refine tX12_isLeaf_4 hc hr ?_ ?_ f8 _ hw
  · intro hw
    refine V.iconst hc dX12_isLeaf_32 ?_
    exact V.zret hc hr dX12_isLeaf_33 (by omega) hw
  · intro hw
    refine V.iconst hc dX12_isLeaf_24 ?_
    exact V.zret hc hr dX12_isLeaf_25 (by omega) hw
theorem tX12_isActive_52 {G : GG} {p : Program} {l : Launch} {e : Jvm.Env} {s : State} {m : MethodId} {args : Array Value} {below : List Frame} {meth : Method} {c : Code} {r : Nat} {P : Int → HP → Prop} (hc : VC G p (rmD (r + 8) 0) s m args meth c RX12 cX12_isActive 3 (r + 8)) (hr : meth.sig.returnType = some .boolean) {W : Int → Int → HP → (Int → HP → Prop) → Prop} (hW : ∀ (o : Int) (a1 : Int) (h : HP) (P : Int → HP → Prop), W o a1 h P → CnI l G yX12_isActive cX12_isActive 3 (some .boolean) (r + 7) [(22, o), (0, a1)] h P) {o : Int} {a1 : Int} {l2 : Int} {h : HP} {K22 : Int → HP → Prop} (hK22 : ∀ (x2 : Int) (h : HP), K22 x2 h → V G p l e (rmD (r + 8) 0) s m args below meth c (MQ below (QI G P) args s 0 0 (va_Aof G)) 3 22 [(22, o), (0, a1), (0, x2)] [] h 0) (hw : wX12_isActive_52 W o a1 l2 K22 h) : V G p l e (rmD (r + 8) 0) s m args below meth c (MQ below (QI G P) args s 0 0 (va_Aof G)) 3 52 [(22, o), (0, a1), (0, l2)] [] h 0 := by
  refine V.iinc hc dX12_isActive_52 rfl rfl (lo' := [(22, o), (0, a1), (0, l2 + 1)]) rfl ?_
  refine V.goto hc (tgt := 22) dX12_isActive_55 (by decide) ?_
  exact hK22 _ _ hw
theorem tX12_isActive_22 {G : GG} {p : Program} {l : Launch} {e : Jvm.Env} {s : State} {m : MethodId} {args : Array Value} {below : List Frame} {meth : Method} {c : Code} {r : Nat} {P : Int → HP → Prop} (hc : VC G p (rmD (r + 8) 0) s m args meth c RX12 cX12_isActive 3 (r + 8)) (hr : meth.sig.returnType = some .boolean) {W : Int → Int → HP → (Int → HP → Prop) → Prop} (hW : ∀ (o : Int) (a1 : Int) (h : HP) (P : Int → HP → Prop), W o a1 h P → CnI l G yX12_isActive cX12_isActive 3 (some .boolean) (r + 7) [(22, o), (0, a1)] h P) {o : Int} {a1 : Int} {K58 : HP → Prop} {K50 : HP → Prop} (hK58 : ∀  (h : HP), K58  h → V G p l e (rmD (r + 8) 0) s m args below meth c (MQ below (QI G P) args s 0 0 (va_Aof G)) 3 58 [(1, 0), (1, 0), (1, 0)] [] h 0) (hK50 : ∀  (h : HP), K50  h → V G p l e (rmD (r + 8) 0) s m args below meth c (MQ below (QI G P) args s 0 0 (va_Aof G)) 3 50 [(1, 0), (1, 0), (1, 0)] [] h 0) : ∀ (f : Nat) (l2 : Int) (h : HP), wX12_isActive_22 W o a1 K58 K50 f l2 h → V G p l e (rmD (r + 8) 0) s m args below meth c (MQ below (QI G P) args s 0 0 (va_Aof G)) 3 22 [(22, o), (0, a1), (0, l2)] [] h 0 := by
  intro f
  induction f with
  | zero =>
    intro l2 h hw
    exact hw.elim
  | succ f ih =>
    intro l2 h hw
    refine V.iload_n hc dX12_isActive_22 rfl rfl ?_
    refine V.aload_n (t := 12) hc dX12_isActive_23 rfl rfl ?_
    refine V.gR hc gR_X12_21 (i' := o) rfl dX12_isActive_24 ?_
    refine V.iconst hc dX12_isActive_27 ?_
    refine V.ald hc ak_49 (by omega) dX12_isActive_28 ?_
    obtain ⟨g4, hw⟩ := hw
    obtain ⟨g5, hw⟩ := hw
    refine V.icmp_ge hc (tgt := 58) dX12_isActive_29 (by decide) g4 g5 (fun c6 => ?_) (fun c6 => ?_)
    · replace hw := hw.1 c6
      refine V.drop (lo' := [(1, 0), (1, 0), (1, 0)]) ⟨Or.inl rfl, Or.inl rfl, Or.inl rfl, trivial⟩ ?_
      exact hK58 _ hw
    · replace hw := hw.2 c6
      refine V.aload_n (t := 12) hc dX12_isActive_32 rfl rfl ?_
      refine V.gR hc gR_X12_25 (i' := o) rfl dX12_isActive_33 ?_
      refine V.iload_n hc dX12_isActive_36 rfl rfl ?_
      obtain ⟨g7, hw⟩ := hw
      refine V.ald hc ak_50 g7 dX12_isActive_37 ?_
      refine V.iload_n hc dX12_isActive_38 rfl rfl ?_
      obtain ⟨g8, hw⟩ := hw
      obtain ⟨g9, hw⟩ := hw
      refine V.icmp_ne hc (tgt := 52) dX12_isActive_39 (by decide) g8 g9 (fun c10 => ?_) (fun c10 => ?_)
      · replace hw := hw.1 c10
        exact tX12_isActive_52 hc hr hW (fun y2 hy hw => by exact ih _ _ hw) hw
      · replace hw := hw.2 c10
        refine V.aload_n (t := 12) hc dX12_isActive_42 rfl rfl ?_
        refine V.iload_n hc dX12_isActive_43 rfl rfl ?_
        refine V.callVI hc (hW _ _ _ _ hw) mo_X12_isActive ml_X12_262 (by rfl) rfl rfl (as := [(0, l2)]) rfl rfl (Nat.ble_eq_true_of_le (by omega)) rfl rfl ⟨Nat.zero_le _, Nat.zero_le _⟩ dX12_isActive_44 (fun x12 h11 hw => ?_)
        obtain ⟨g13, hw⟩ := hw
        refine V.if_eq hc (tgt := 52) dX12_isActive_47 (by decide) g13 (fun c14 => ?_) (fun c14 => ?_)
        · replace hw := hw.1 c14
          exact tX12_isActive_52 hc hr hW (fun y2 hy hw => by exact ih _ _ hw) hw
        · replace hw := hw.2 c14
          refine V.drop (lo' := [(1, 0), (1, 0), (1, 0)]) ⟨Or.inl rfl, Or.inl rfl, Or.inl rfl, trivial⟩ ?_
          exact hK50 _ hw
theorem qX12_isActive_b (G : GG) (l : Launch) {r : Nat} {W : Int → Int → HP → (Int → HP → Prop) → Prop} (hW : ∀ (o : Int) (a1 : Int) (h : HP) (P : Int → HP → Prop), W o a1 h P → CnI l G yX12_isActive cX12_isActive 3 (some .boolean) (r + 7) [(22, o), (0, a1)] h P) (o : Int) (a1 : Int) (h : HP) (P : Int → HP → Prop) (hw : wX12_isActive_b W o a1 h P) : CnI l G yX12_isActive cX12_isActive 3 (some .boolean) (r + 8) [(22, o), (0, a1)] h P := by
  refine CnI.of (lo := [(22, o), (0, a1), (1, 0)]) (by decide) rfl rfl rfl ?_
  intro p e s m args below meth c hc hr
  have hc : VC G p (rmD (r + 8) 0) s m args meth c RX12 cX12_isActive 3 (r + 8) := hc
  refine V.aload_n (t := 12) hc dX12_isActive_0 rfl rfl ?_
  refine V.gR hc gR_X12_43 (i' := o) rfl dX12_isActive_1 ?_
  refine V.sipush hc dX12_isActive_4 (by decide) ?_
  refine V.iload_n hc dX12_isActive_7 rfl rfl ?_
  refine V.imul hc dX12_isActive_8 ?_
  refine V.bipush hc dX12_isActive_9 (by decide) ?_
  refine V.iadd hc dX12_isActive_11 ?_
  obtain ⟨g1, hw⟩ := hw
  refine V.ald hc ak_56 g1 dX12_isActive_12 ?_
  obtain ⟨g2, hw⟩ := hw
  refine V.if_le hc (tgt := 18) dX12_isActive_13 (by decide) g2 (fun c3 => ?_) (fun c3 => ?_)
  · replace hw := hw.1 c3
    refine V.iload_n hc dX12_isActive_18 rfl rfl ?_
    refine V.iconst hc dX12_isActive_19 ?_
    refine V.iadd hc dX12_isActive_20 ?_
    refine V.istore_n hc dX12_isActive_21 rfl rfl (lo' := [(22, o), (0, a1), (0, a1 + 1)]) rfl ?_
    obtain ⟨f15, hw⟩ := hw
    refine tX12_isActive_22 hc hr hW ?_ ?_ f15 _ _ hw
    · intro h16 hw
      refine V.iconst hc dX12_isActive_58 ?_
      exact V.zret hc hr dX12_isActive_59 (by omega) hw
    · intro h17 hw
      refine V.iconst hc dX12_isActive_50 ?_
      exact V.zret hc hr dX12_isActive_51 (by omega) hw
  · replace hw := hw.2 c3
    refine V.iconst hc dX12_isActive_16 ?_
    exact V.zret hc hr dX12_isActive_17 (by omega) hw
theorem qX12_isActive (G : GG) (l : Launch) : ∀ (r : Nat) (o : Int) (a1 : Int) (h : HP) (P : Int → HP → Prop), wX12_isActive r o a1 h P → CnI l G yX12_isActive cX12_isActive 3 (some .boolean) (r + 8) [(22, o), (0, a1)] h P
  | 0, _, _, _, _ => fun hw => hw.elim
  | r + 1, o, a1, h, P => fun hw => qX12_isActive_b G l (r := r + 1) (W := wX12_isActive r) (fun o a1 h P q => qX12_isActive G l r o a1 h P q) o a1 h P hw
theorem qX12_putVirtual (G : GG) (l : Launch) (o : Int) (a1 : Int) (a2 : Int) (h : HP) (P : HP → Prop) (hw : wX12_putVirtual o a1 a2 h P) : CnV l G yX12_putVirtual cX12_putVirtual 4 8 [(22, o), (0, a1), (0, a2)] h P := by
  refine CnV.of (lo := [(22, o), (0, a1), (0, a2), (1, 0)]) (by decide) rfl rfl rfl ?_
  intro p e s m args below meth c hc hr
  have hc : VC G p (rmD 8 0) s m args meth c RX12 cX12_putVirtual 4 8 := hc
  refine V.aload_n (t := 12) hc dX12_putVirtual_0 rfl rfl ?_
  refine V.gR hc gR_X12_43 (i' := o) rfl dX12_putVirtual_1 ?_
  refine V.sipush hc dX12_putVirtual_4 (by decide) ?_
  refine V.iload_n hc dX12_putVirtual_7 rfl rfl ?_
  refine V.imul hc dX12_putVirtual_8 ?_
  refine V.bipush hc dX12_putVirtual_9 (by decide) ?_
  refine V.iadd hc dX12_putVirtual_11 ?_
  refine V.iload_n hc dX12_putVirtual_12 rfl rfl ?_
  obtain ⟨g2, hw⟩ := hw
  refine V.ast hc ak_56 g2 dX12_putVirtual_13 (fun h1 e => ?_)
  replace hw := hw h1 e
  clear e
  refine V.aload_n (t := 12) hc dX12_putVirtual_14 rfl rfl ?_
  refine V.gR hc gR_X12_25 (i' := o) rfl dX12_putVirtual_15 ?_
  refine V.iload_n hc dX12_putVirtual_18 rfl rfl ?_
  obtain ⟨g3, hw⟩ := hw
  refine V.ald hc ak_50 g3 dX12_putVirtual_19 ?_
  refine V.iconst hc dX12_putVirtual_20 ?_
  obtain ⟨q7, hw⟩ := hw
  have kJ13 : ∀ t6 : Int, ((¬ h1 50 o a1 = (-1) → t6 = (257 * (h1 50 o a1)) + 15) ∧ (h1 50 o a1 = (-1) → t6 = 3088)) → V G p l e (rmD 8 0) s m args below meth c (MQ below (QV G P) args s 0 0 (va_Aof G)) 4 43 [(22, o), (1, 0), (0, a2), (1, 0)] [(0, t6)] h1 0 := by
    intro t6 he
    replace hw := hw t6 he
    clear he
    refine V.istore_n hc dX12_putVirtual_43 rfl rfl (lo' := [(22, o), (1, 0), (0, a2), (0, t6)]) rfl ?_
    refine V.aload_n (t := 12) hc dX12_putVirtual_44 rfl rfl ?_
    refine V.gR hc gR_X12_43 (i' := o) rfl dX12_putVirtual_45 ?_
    refine V.iload_n hc dX12_putVirtual_48 rfl rfl ?_
    refine V.aload_n (t := 12) hc dX12_putVirtual_49 rfl rfl ?_
    refine V.gR hc gR_X12_43 (i' := o) rfl dX12_putVirtual_50 ?_
    refine V.iload_n hc dX12_putVirtual_53 rfl rfl ?_
    obtain ⟨g8, hw⟩ := hw
    refine V.ald hc ak_56 g8 dX12_putVirtual_54 ?_
    refine V.iload_n hc dX12_putVirtual_55 rfl rfl ?_
    obtain ⟨g9, hw⟩ := hw
    obtain ⟨g10, hw⟩ := hw
    refine V.mmax hc ml_X12_255 rfl rfl g9 g10 dX12_putVirtual_56 ?_
    obtain ⟨g12, hw⟩ := hw
    refine V.ast hc ak_56 g12 dX12_putVirtual_59 (fun h11 e => ?_)
    replace hw := hw h11 e
    clear e
    exact V.vret hc hr dX12_putVirtual_60 hw
  obtain ⟨g4, q14⟩ := q7
  refine V.icmp_ne hc (tgt := 30) dX12_putVirtual_21 (by decide) g4 (by omega) (fun c15 => ?_) (fun c15 => ?_)
  · have q16 := q14 c15
    have g5 := q16
    refine V.sipush hc dX12_putVirtual_30 (by decide) ?_
    refine V.aload_n (t := 12) hc dX12_putVirtual_33 rfl rfl ?_
    refine V.gR hc gR_X12_25 (i' := o) rfl dX12_putVirtual_34 ?_
    refine V.iload_n hc dX12_putVirtual_37 rfl rfl ?_
    refine V.ald hc ak_50 g5 dX12_putVirtual_38 ?_
    refine V.imul hc dX12_putVirtual_39 ?_
    refine V.bipush hc dX12_putVirtual_40 (by decide) ?_
    refine V.iadd hc dX12_putVirtual_42 ?_
    refine V.drop (lo' := [(22, o), (1, 0), (0, a2), (1, 0)]) ⟨Or.inr rfl, Or.inl rfl, Or.inr rfl, Or.inr rfl, trivial⟩ ?_
    exact kJ13 _ ⟨fun _ => rfl, (fun q => absurd q c15)⟩
  · refine V.sipush hc dX12_putVirtual_24 (by decide) ?_
    refine V.goto hc (tgt := 43) dX12_putVirtual_27 (by decide) ?_
    refine V.drop (lo' := [(22, o), (1, 0), (0, a2), (1, 0)]) ⟨Or.inr rfl, Or.inl rfl, Or.inr rfl, Or.inr rfl, trivial⟩ ?_
    exact kJ13 _ ⟨(fun q => absurd c15 q), fun _ => rfl⟩
theorem tX12_tellVirtuals_107 {G : GG} {p : Program} {l : Launch} {e : Jvm.Env} {s : State} {m : MethodId} {args : Array Value} {below : List Frame} {meth : Method} {c : Code} {P : Int → HP → Prop} (hc : VC G p (rmD 22 0) s m args meth c RX12 cX12_tellVirtuals 6 22) (hr : meth.sig.returnType = some .boolean) {o : Int} {a1 : Int} {a2 : Int} {l3 : Int} {l4 : Int} {h : HP} {K5 : Int → Int → HP → Prop} (hK5 : ∀ (x3 : Int) (x4 : Int) (h : HP), K5 x3 x4 h → V G p l e (rmD 22 0) s m args below meth c (MQ below (QI G P) args s 0 0 (va_Aof G)) 6 5 [(22, o), (0, a1), (0, a2), (0, x3), (0, x4), (1, 0)] [] h 0) (hw : wX12_tellVirtuals_107 o a1 a2 l3 l4 K5 h) : V G p l e (rmD 22 0) s m args below meth c (MQ below (QI G P) args s 0 0 (va_Aof G)) 6 107 [(22, o), (0, a1), (0, a2), (0, l3), (0, l4), (1, 0)] [] h 0 := by
  refine V.iinc hc dX12_tellVirtuals_107 rfl rfl (lo' := [(22, o), (0, a1), (0, a2), (0, l3), (0, l4 + 1), (1, 0)]) rfl ?_
  refine V.goto hc (tgt := 5) dX12_tellVirtuals_110 (by decide) ?_
  exact hK5 _ _ _ hw
theorem tX12_tellVirtuals_5 {G : GG} {p : Program} {l : Launch} {e : Jvm.Env} {s : State} {m : MethodId} {args : Array Value} {below : List Frame} {meth : Method} {c : Code} {P : Int → HP → Prop} (hc : VC G p (rmD 22 0) s m args meth c RX12 cX12_tellVirtuals 6 22) (hr : meth.sig.returnType = some .boolean) {o : Int} {a1 : Int} {a2 : Int} {K113 : Int → HP → Prop} (hK113 : ∀ (x3 : Int) (h : HP), K113 x3 h → V G p l e (rmD 22 0) s m args below meth c (MQ below (QI G P) args s 0 0 (va_Aof G)) 6 113 [(1, 0), (1, 0), (1, 0), (0, x3), (1, 0), (1, 0)] [] h 0) : ∀ (f : Nat) (l3 : Int) (l4 : Int) (h : HP), wX12_tellVirtuals_5 o a1 a2 K113 f l3 l4 h → V G p l e (rmD 22 0) s m args below meth c (MQ below (QI G P) args s 0 0 (va_Aof G)) 6 5 [(22, o), (0, a1), (0, a2), (0, l3), (0, l4), (1, 0)] [] h 0 := by
  intro f
  induction f with
  | zero =>
    intro l3 l4 h hw
    exact hw.elim
  | succ f ih =>
    intro l3 l4 h hw
    refine V.iload hc dX12_tellVirtuals_5 rfl ?_
    refine V.aload_n (t := 12) hc dX12_tellVirtuals_7 rfl rfl ?_
    refine V.gR hc gR_X12_21 (i' := o) rfl dX12_tellVirtuals_8 ?_
    refine V.iconst hc dX12_tellVirtuals_11 ?_
    refine V.ald hc ak_49 (by omega) dX12_tellVirtuals_12 ?_
    obtain ⟨g1, hw⟩ := hw
    obtain ⟨g2, hw⟩ := hw
    refine V.icmp_ge hc (tgt := 113) dX12_tellVirtuals_13 (by decide) g1 g2 (fun c3 => ?_) (fun c3 => ?_)
    · replace hw := hw.1 c3
      refine V.drop (lo' := [(1, 0), (1, 0), (1, 0), (0, l3), (1, 0), (1, 0)]) ⟨Or.inl rfl, Or.inl rfl, Or.inl rfl, Or.inr rfl, Or.inl rfl, Or.inr rfl, trivial⟩ ?_
      exact hK113 _ _ hw
    · replace hw := hw.2 c3
      refine V.aload_n (t := 12) hc dX12_tellVirtuals_16 rfl rfl ?_
      refine V.gR hc gR_X12_25 (i' := o) rfl dX12_tellVirtuals_17 ?_
      refine V.iload hc dX12_tellVirtuals_20 rfl ?_
      obtain ⟨g4, hw⟩ := hw
      refine V.ald hc ak_50 g4 dX12_tellVirtuals_22 ?_
      refine V.iload_n hc dX12_tellVirtuals_23 rfl rfl ?_
      obtain ⟨g5, hw⟩ := hw
      obtain ⟨g6, hw⟩ := hw
      refine V.icmp_ne hc (tgt := 107) dX12_tellVirtuals_24 (by decide) g5 g6 (fun c7 => ?_) (fun c7 => ?_)
      · replace hw := hw.1 c7
        exact tX12_tellVirtuals_107 hc hr (fun y3 y4 hy hw => by exact ih _ _ _ hw) hw
      · replace hw := hw.2 c7
        refine V.iload hc dX12_tellVirtuals_27 rfl ?_
        refine V.iload_n hc dX12_tellVirtuals_29 rfl rfl ?_
        obtain ⟨g8, hw⟩ := hw
        obtain ⟨g9, hw⟩ := hw
        refine V.icmp_eq hc (tgt := 107) dX12_tellVirtuals_30 (by decide) g8 g9 (fun c10 => ?_) (fun c10 => ?_)
        · replace hw := hw.1 c10
          exact tX12_tellVirtuals_107 hc hr (fun y3 y4 hy hw => by exact ih _ _ _ hw) hw
        · replace hw := hw.2 c10
          refine V.aload_n (t := 12) hc dX12_tellVirtuals_33 rfl rfl ?_
          refine V.iload hc dX12_tellVirtuals_34 rfl ?_
          refine V.callVI hc (qX12_isActive G l 13 _ _ _ _ hw) mo_X12_isActive ml_X12_262 (by rfl) rfl rfl (as := [(0, l4)]) rfl rfl rfl rfl rfl ⟨Nat.zero_le _, Nat.zero_le _⟩ dX12_tellVirtuals_36 (fun x12 h11 hw => ?_)
          obtain ⟨g13, hw⟩ := hw
          refine V.if_ne hc (tgt := 45) dX12_tellVirtuals_39 (by decide) g13 (fun c14 => ?_) (fun c14 => ?_)
          · replace hw := hw.1 c14
            refine V.aload_n (t := 12) hc dX12_tellVirtuals_45 rfl rfl ?_
            refine V.gR hc gR_X12_43 (i' := o) rfl dX12_tellVirtuals_46 ?_
            refine V.sipush hc dX12_tellVirtuals_49 (by decide) ?_
            refine V.iload hc dX12_tellVirtuals_52 rfl ?_
            refine V.imul hc dX12_tellVirtuals_54 ?_
            refine V.bipush hc dX12_tellVirtuals_55 (by decide) ?_
            refine V.iadd hc dX12_tellVirtuals_57 ?_
            obtain ⟨g15, hw⟩ := hw
            refine V.ald hc ak_56 g15 dX12_tellVirtuals_58 ?_
            refine V.istore hc dX12_tellVirtuals_59 rfl (lo' := [(22, o), (0, a1), (0, a2), (0, l3), (0, l4), (0, h11 56 o ((257 * l4) + 14))]) rfl ?_
            refine V.aload_n (t := 12) hc dX12_tellVirtuals_61 rfl rfl ?_
            refine V.iload_n hc dX12_tellVirtuals_62 rfl rfl ?_
            obtain ⟨q20, hw⟩ := hw
            have kJ32 : ∀ t19 : Int, ((l3 = 0 → t19 = h11 56 o ((257 * l4) + 14)) ∧ (¬ l3 = 0 → t19 = min (h11 12 o 23) (h11 56 o ((257 * l4) + 14)))) → V G p l e (rmD 22 0) s m args below meth c (MQ below (QI G P) args s 0 0 (va_Aof G)) 6 80 [(22, o), (0, a1), (0, a2), (0, l3), (0, l4), (0, h11 56 o ((257 * l4) + 14))] [(0, t19), (22, o)] h11 0 := by
              intro t19 he
              replace hw := hw t19 he
              clear he
              refine V.pI hc pI_X12_265 rfl dX12_tellVirtuals_80 (fun h21 e => ?_)
              replace hw := hw h21 e
              clear e
              refine V.aload_n (t := 12) hc dX12_tellVirtuals_83 rfl rfl ?_
              refine V.iload_n hc dX12_tellVirtuals_84 rfl rfl ?_
              obtain ⟨q26, hw⟩ := hw
              have kJ28 : ∀ t25 : Int, ((l3 = 0 → t25 = h11 56 o ((257 * l4) + 14)) ∧ (¬ l3 = 0 → t25 = max (h21 12 o 24) (h11 56 o ((257 * l4) + 14)))) → V G p l e (rmD 22 0) s m args below meth c (MQ below (QI G P) args s 0 0 (va_Aof G)) 6 102 [(22, o), (0, a1), (0, a2), (1, 0), (0, l4), (1, 0)] [(0, t25), (22, o)] h21 0 := by
                intro t25 he
                replace hw := hw t25 he
                clear he
                refine V.pI hc pI_X12_268 rfl dX12_tellVirtuals_102 (fun h27 e => ?_)
                replace hw := hw h27 e
                clear e
                refine V.iconst hc dX12_tellVirtuals_105 ?_
                refine V.istore_n hc dX12_tellVirtuals_106 rfl rfl (lo' := [(22, o), (0, a1), (0, a2), (0, 1), (0, l4), (1, 0)]) rfl ?_
                exact tX12_tellVirtuals_107 hc hr (fun y3 y4 hy hw => by exact ih _ _ _ hw) hw
              obtain ⟨g22, q29⟩ := q26
              refine V.if_eq hc (tgt := 100) dX12_tellVirtuals_85 (by decide) g22 (fun c30 => ?_) (fun c30 => ?_)
              · refine V.iload hc dX12_tellVirtuals_100 rfl ?_
                refine V.drop (lo' := [(22, o), (0, a1), (0, a2), (1, 0), (0, l4), (1, 0)]) ⟨Or.inr rfl, Or.inr rfl, Or.inr rfl, Or.inl rfl, Or.inr rfl, Or.inl rfl, trivial⟩ ?_
                exact kJ28 _ ⟨fun _ => rfl, (fun q => absurd c30 q)⟩
              · have q31 := q29 c30
                obtain ⟨g23, g24⟩ := q31
                refine V.aload_n (t := 12) hc dX12_tellVirtuals_88 rfl rfl ?_
                refine V.gI hc gI_X12_268 rfl dX12_tellVirtuals_89 ?_
                refine V.iload hc dX12_tellVirtuals_92 rfl ?_
                refine V.mmax hc ml_X12_255 rfl rfl g23 g24 dX12_tellVirtuals_94 ?_
                refine V.goto hc (tgt := 102) dX12_tellVirtuals_97 (by decide) ?_
                refine V.drop (lo' := [(22, o), (0, a1), (0, a2), (1, 0), (0, l4), (1, 0)]) ⟨Or.inr rfl, Or.inr rfl, Or.inr rfl, Or.inl rfl, Or.inr rfl, Or.inl rfl, trivial⟩ ?_
                exact kJ28 _ ⟨(fun q => absurd q c30), fun _ => rfl⟩
            obtain ⟨g16, q33⟩ := q20
            refine V.if_eq hc (tgt := 78) dX12_tellVirtuals_63 (by decide) g16 (fun c34 => ?_) (fun c34 => ?_)
            · refine V.iload hc dX12_tellVirtuals_78 rfl ?_
              exact kJ32 _ ⟨fun _ => rfl, (fun q => absurd c34 q)⟩
            · have q35 := q33 c34
              obtain ⟨g17, g18⟩ := q35
              refine V.aload_n (t := 12) hc dX12_tellVirtuals_66 rfl rfl ?_
              refine V.gI hc gI_X12_265 rfl dX12_tellVirtuals_67 ?_
              refine V.iload hc dX12_tellVirtuals_70 rfl ?_
              refine V.mmin hc ml_X12_151 rfl rfl g17 g18 dX12_tellVirtuals_72 ?_
              refine V.goto hc (tgt := 80) dX12_tellVirtuals_75 (by decide) ?_
              exact kJ32 _ ⟨(fun q => absurd q c34), fun _ => rfl⟩
          · replace hw := hw.2 c14
            refine V.goto hc (tgt := 107) dX12_tellVirtuals_42 (by decide) ?_
            exact tX12_tellVirtuals_107 hc hr (fun y3 y4 hy hw => by exact ih _ _ _ hw) hw
theorem qX12_tellVirtuals (G : GG) (l : Launch) (o : Int) (a1 : Int) (a2 : Int) (h : HP) (P : Int → HP → Prop) (hw : wX12_tellVirtuals o a1 a2 h P) : CnI l G yX12_tellVirtuals cX12_tellVirtuals 6 (some .boolean) 22 [(22, o), (0, a1), (0, a2)] h P := by
  refine CnI.of (lo := [(22, o), (0, a1), (0, a2), (1, 0), (1, 0), (1, 0)]) (by decide) rfl rfl rfl ?_
  intro p e s m args below meth c hc hr
  have hc : VC G p (rmD 22 0) s m args meth c RX12 cX12_tellVirtuals 6 22 := hc
  refine V.iconst hc dX12_tellVirtuals_0 ?_
  refine V.istore_n hc dX12_tellVirtuals_1 rfl rfl (lo' := [(22, o), (0, a1), (0, a2), (0, 0), (1, 0), (1, 0)]) rfl ?_
  refine V.iconst hc dX12_tellVirtuals_2 ?_
  refine V.istore hc dX12_tellVirtuals_3 rfl (lo' := [(22, o), (0, a1), (0, a2), (0, 0), (0, 0), (1, 0)]) rfl ?_
  obtain ⟨f36, hw⟩ := hw
  refine tX12_tellVirtuals_5 hc hr ?_ f36 _ _ _ hw
  · intro l37 h38 hw
    refine V.iload_n hc dX12_tellVirtuals_113 rfl rfl ?_
    obtain ⟨g39, hw⟩ := hw
    exact V.zret hc hr dX12_tellVirtuals_114 g39 hw
theorem tX12_wake_124 {G : GG} {p : Program} {l : Launch} {e : Jvm.Env} {s : State} {m : MethodId} {args : Array Value} {below : List Frame} {meth : Method} {c : Code} {P : HP → Prop} (hc : VC G p (rmD 23 0) s m args meth c RX12 cX12_wake 4 23) (hr : meth.sig.returnType = none) {o : Int} {a1 : Int} {h : HP} (hw : wX12_wake_124 o a1 P h) : V G p l e (rmD 23 0) s m args below meth c (MQ below (QV G P) args s 0 0 (va_Aof G)) 4 124 [(22, o), (0, a1), (1, 0), (1, 0)] [] h 0 := by
  refine V.aload_n (t := 12) hc dX12_wake_124 rfl rfl ?_
  refine V.iload_n hc dX12_wake_125 rfl rfl ?_
  refine V.iconst hc dX12_wake_126 ?_
  refine V.callVI hc (qX12_hasCurve G l _ _ _ _ _ hw) mo_X12_hasCurve ml_X12_283 (by rfl) rfl rfl (as := [(0, a1), (0, 0)]) rfl rfl rfl rfl rfl ⟨Nat.zero_le _, Nat.zero_le _⟩ dX12_wake_127 (fun x21 h20 hw => ?_)
  obtain ⟨g22, hw⟩ := hw
  refine V.if_eq hc (tgt := 147) dX12_wake_130 (by decide) g22 (fun c23 => ?_) (fun c23 => ?_)
  · replace hw := hw.1 c23
    exact V.vret hc hr dX12_wake_147 hw
  · replace hw := hw.2 c23
    refine V.aload_n (t := 12) hc dX12_wake_133 rfl rfl ?_
    refine V.iload_n hc dX12_wake_134 rfl rfl ?_
    refine V.iconst hc dX12_wake_135 ?_
    refine V.aload_n (t := 12) hc dX12_wake_136 rfl rfl ?_
    refine V.gR hc gR_X12_43 (i' := o) rfl dX12_wake_137 ?_
    refine V.sipush hc dX12_wake_140 (by decide) ?_
    refine V.ald hc ak_56 (by omega) dX12_wake_143 ?_
    refine V.callVV hc (qX12_lay G l _ _ _ _ _ _ hw) mo_X12_lay ml_X12_279 (by rfl) rfl rfl (as := [(0, a1), (0, 0), (0, h20 56 o 3084)]) rfl rfl rfl rfl rfl ⟨Nat.zero_le _, Nat.zero_le _⟩ dX12_wake_144 (fun h24 hw => ?_)
    exact V.vret hc hr dX12_wake_147 hw
theorem qX12_wake (G : GG) (l : Launch) (o : Int) (a1 : Int) (h : HP) (P : HP → Prop) (hw : wX12_wake o a1 h P) : CnV l G yX12_wake cX12_wake 4 23 [(22, o), (0, a1)] h P := by
  refine CnV.of (lo := [(22, o), (0, a1), (1, 0), (1, 0)]) (by decide) rfl rfl rfl ?_
  intro p e s m args below meth c hc hr
  have hc : VC G p (rmD 23 0) s m args meth c RX12 cX12_wake 4 23 := hc
  refine V.aload_n (t := 12) hc dX12_wake_0 rfl rfl ?_
  refine V.gR hc gR_X12_25 (i' := o) rfl dX12_wake_1 ?_
  refine V.iload_n hc dX12_wake_4 rfl rfl ?_
  obtain ⟨g1, hw⟩ := hw
  refine V.ald hc ak_50 g1 dX12_wake_5 ?_
  refine V.istore_n hc dX12_wake_6 rfl rfl (lo' := [(22, o), (0, a1), (0, h 50 o a1), (1, 0)]) rfl ?_
  refine V.aload_n (t := 12) hc dX12_wake_7 rfl rfl ?_
  refine V.iload_n hc dX12_wake_8 rfl rfl ?_
  refine V.iload_n hc dX12_wake_9 rfl rfl ?_
  refine V.callVI hc (qX12_tellVirtuals G l _ _ _ _ _ hw) mo_X12_tellVirtuals ml_X12_271 (by rfl) rfl rfl (as := [(0, h 50 o a1), (0, a1)]) rfl rfl rfl rfl rfl ⟨Nat.zero_le _, Nat.zero_le _⟩ dX12_wake_10 (fun x3 h2 hw => ?_)
  obtain ⟨q9, hw⟩ := hw
  have kJ26 : ∀ t8 : Int, ((x3 = 0 → ((¬ h 50 o a1 = (-1) → t8 = h2 56 o ((257 * (h 50 o a1)) + 15)) ∧ (h 50 o a1 = (-1) → t8 = h2 56 o 3088))) ∧ (¬ x3 = 0 → t8 = ((h2 12 o 23) + (h2 12 o 24)) / 2)) → V G p l e (rmD 23 0) s m args below meth c (MQ below (QV G P) args s 0 0 (va_Aof G)) 4 59 [(22, o), (0, a1), (1, 0), (1, 0)] [(0, t8)] h2 0 := by
    intro t8 he
    replace hw := hw t8 he
    clear he
    refine V.istore_n hc dX12_wake_59 rfl rfl (lo' := [(22, o), (0, a1), (1, 0), (0, t8)]) rfl ?_
    refine V.aload_n (t := 12) hc dX12_wake_60 rfl rfl ?_
    refine V.iload_n hc dX12_wake_61 rfl rfl ?_
    refine V.aload_n (t := 12) hc dX12_wake_62 rfl rfl ?_
    refine V.gR hc gR_X12_43 (i' := o) rfl dX12_wake_63 ?_
    refine V.sipush hc dX12_wake_66 (by decide) ?_
    refine V.iload_n hc dX12_wake_69 rfl rfl ?_
    refine V.imul hc dX12_wake_70 ?_
    refine V.bipush hc dX12_wake_71 (by decide) ?_
    refine V.iadd hc dX12_wake_73 ?_
    obtain ⟨g10, hw⟩ := hw
    refine V.ald hc ak_56 g10 dX12_wake_74 ?_
    refine V.iload_n hc dX12_wake_75 rfl rfl ?_
    obtain ⟨g11, hw⟩ := hw
    obtain ⟨g12, hw⟩ := hw
    refine V.mmax hc ml_X12_255 rfl rfl g11 g12 dX12_wake_76 ?_
    refine V.callVV hc (qX12_putVirtual G l _ _ _ _ _ hw) mo_X12_putVirtual ml_X12_275 (by rfl) rfl rfl (as := [(0, a1), (0, max (h2 56 o ((257 * a1) + 14)) t8)]) rfl rfl rfl rfl rfl ⟨Nat.zero_le _, Nat.zero_le _⟩ dX12_wake_79 (fun h13 hw => ?_)
    refine V.aload_n (t := 12) hc dX12_wake_82 rfl rfl ?_
    refine V.iload_n hc dX12_wake_83 rfl rfl ?_
    refine V.iconst hc dX12_wake_84 ?_
    refine V.aload_n (t := 12) hc dX12_wake_85 rfl rfl ?_
    refine V.gR hc gR_X12_43 (i' := o) rfl dX12_wake_86 ?_
    refine V.sipush hc dX12_wake_89 (by decide) ?_
    refine V.iload_n hc dX12_wake_92 rfl rfl ?_
    refine V.imul hc dX12_wake_93 ?_
    refine V.bipush hc dX12_wake_94 (by decide) ?_
    refine V.iadd hc dX12_wake_96 ?_
    obtain ⟨g14, hw⟩ := hw
    refine V.ald hc ak_56 g14 dX12_wake_97 ?_
    refine V.callVV hc (qX12_lay G l _ _ _ _ _ _ hw) mo_X12_lay ml_X12_279 (by rfl) rfl rfl (as := [(0, a1), (0, 1), (0, h13 56 o ((257 * a1) + 14))]) rfl rfl rfl rfl rfl ⟨Nat.zero_le _, Nat.zero_le _⟩ dX12_wake_98 (fun h15 hw => ?_)
    refine V.aload_n (t := 12) hc dX12_wake_101 rfl rfl ?_
    refine V.iload_n hc dX12_wake_102 rfl rfl ?_
    refine V.iconst hc dX12_wake_103 ?_
    refine V.callVI hc (qX12_hasCurve G l _ _ _ _ _ hw) mo_X12_hasCurve ml_X12_283 (by rfl) rfl rfl (as := [(0, a1), (0, 2)]) rfl rfl rfl rfl rfl ⟨Nat.zero_le _, Nat.zero_le _⟩ dX12_wake_104 (fun x17 h16 hw => ?_)
    obtain ⟨g18, hw⟩ := hw
    refine V.if_eq hc (tgt := 124) dX12_wake_107 (by decide) g18 (fun c19 => ?_) (fun c19 => ?_)
    · replace hw := hw.1 c19
      refine V.drop (lo' := [(22, o), (0, a1), (1, 0), (1, 0)]) ⟨Or.inr rfl, Or.inr rfl, Or.inr rfl, Or.inl rfl, trivial⟩ ?_
      exact tX12_wake_124 hc hr  hw
    · replace hw := hw.2 c19
      refine V.aload_n (t := 12) hc dX12_wake_110 rfl rfl ?_
      refine V.iload_n hc dX12_wake_111 rfl rfl ?_
      refine V.iconst hc dX12_wake_112 ?_
      refine V.aload_n (t := 12) hc dX12_wake_113 rfl rfl ?_
      refine V.gR hc gR_X12_43 (i' := o) rfl dX12_wake_114 ?_
      refine V.sipush hc dX12_wake_117 (by decide) ?_
      refine V.ald hc ak_56 (by omega) dX12_wake_120 ?_
      refine V.callVV hc (qX12_lay G l _ _ _ _ _ _ hw) mo_X12_lay ml_X12_279 (by rfl) rfl rfl (as := [(0, a1), (0, 2), (0, h16 56 o 3084)]) rfl rfl rfl rfl rfl ⟨Nat.zero_le _, Nat.zero_le _⟩ dX12_wake_121 (fun h25 hw => ?_)
      refine V.drop (lo' := [(22, o), (0, a1), (1, 0), (1, 0)]) ⟨Or.inr rfl, Or.inr rfl, Or.inr rfl, Or.inl rfl, trivial⟩ ?_
      exact tX12_wake_124 hc hr  hw
  obtain ⟨g4, q27, q28⟩ := q9
  refine V.if_eq hc (tgt := 30) dX12_wake_13 (by decide) g4 (fun c29 => ?_) (fun c29 => ?_)
  · have q30 := q27 c29
    obtain ⟨g5, q31⟩ := q30
    refine V.iload_n hc dX12_wake_30 rfl rfl ?_
    refine V.iconst hc dX12_wake_31 ?_
    refine V.icmp_ne hc (tgt := 46) dX12_wake_32 (by decide) g5 (by omega) (fun c32 => ?_) (fun c32 => ?_)
    · have q33 := q31 c32
      have g6 := q33
      refine V.aload_n (t := 12) hc dX12_wake_46 rfl rfl ?_
      refine V.gR hc gR_X12_43 (i' := o) rfl dX12_wake_47 ?_
      refine V.sipush hc dX12_wake_50 (by decide) ?_
      refine V.iload_n hc dX12_wake_53 rfl rfl ?_
      refine V.imul hc dX12_wake_54 ?_
      refine V.bipush hc dX12_wake_55 (by decide) ?_
      refine V.iadd hc dX12_wake_57 ?_
      refine V.ald hc ak_56 g6 dX12_wake_58 ?_
      refine V.drop (lo' := [(22, o), (0, a1), (1, 0), (1, 0)]) ⟨Or.inr rfl, Or.inr rfl, Or.inl rfl, Or.inr rfl, trivial⟩ ?_
      exact kJ26 _ ⟨fun _ => ⟨fun _ => rfl, (fun q => absurd q c32)⟩, (fun q => absurd c29 q)⟩
    · refine V.aload_n (t := 12) hc dX12_wake_35 rfl rfl ?_
      refine V.gR hc gR_X12_43 (i' := o) rfl dX12_wake_36 ?_
      refine V.sipush hc dX12_wake_39 (by decide) ?_
      refine V.ald hc ak_56 (by omega) dX12_wake_42 ?_
      refine V.goto hc (tgt := 59) dX12_wake_43 (by decide) ?_
      refine V.drop (lo' := [(22, o), (0, a1), (1, 0), (1, 0)]) ⟨Or.inr rfl, Or.inr rfl, Or.inl rfl, Or.inr rfl, trivial⟩ ?_
      exact kJ26 _ ⟨fun _ => ⟨(fun q => absurd c32 q), fun _ => rfl⟩, (fun q => absurd c29 q)⟩
  · have q34 := q28 c29
    have g7 := q34
    refine V.aload_n (t := 12) hc dX12_wake_16 rfl rfl ?_
    refine V.gI hc gI_X12_265 rfl dX12_wake_17 ?_
    refine V.aload_n (t := 12) hc dX12_wake_20 rfl rfl ?_
    refine V.gI hc gI_X12_268 rfl dX12_wake_21 ?_
    refine V.iadd hc dX12_wake_24 ?_
    refine V.iconst hc dX12_wake_25 ?_
    refine V.idiv hc g7 (by omega) dX12_wake_26 ?_
    refine V.goto hc (tgt := 59) dX12_wake_27 (by decide) ?_
    refine V.drop (lo' := [(22, o), (0, a1), (1, 0), (1, 0)]) ⟨Or.inr rfl, Or.inr rfl, Or.inl rfl, Or.inr rfl, trivial⟩ ?_
    exact kJ26 _ ⟨(fun q => absurd q c29), fun _ => rfl⟩
theorem tX12_comes_38 {G : GG} {p : Program} {l : Launch} {e : Jvm.Env} {s : State} {m : MethodId} {args : Array Value} {below : List Frame} {meth : Method} {c : Code} {P : Int → HP → Prop} (hc : VC G p (rmD 24 0) s m args meth c RX12 cX12_comes 5 24) (hr : meth.sig.returnType = some .boolean) {o : Int} {a1 : Int} {a2 : Int} {l3 : Int} {K69 : HP → Prop} (hK69 : ∀  (h : HP), K69  h → V G p l e (rmD 24 0) s m args below meth c (MQ below (QI G P) args s 0 0 (va_Aof G)) 5 69 [(22, o), (0, a1), (0, a2), (0, l3), (1, 0)] [] h 0) : ∀ (f : Nat) (l4 : Int) (h : HP), wX12_comes_38 o a1 a2 l3 K69 f l4 h → V G p l e (rmD 24 0) s m args below meth c (MQ below (QI G P) args s 0 0 (va_Aof G)) 5 38 [(22, o), (0, a1), (0, a2), (0, l3), (0, l4)] [] h 0 := by
  intro f
  induction f with
  | zero =>
    intro l4 h hw
    exact hw.elim
  | succ f ih =>
    intro l4 h hw
    refine V.iload hc dX12_comes_38 rfl ?_
    refine V.iconst hc dX12_comes_40 ?_
    obtain ⟨g4, hw⟩ := hw
    refine V.icmp_eq hc (tgt := 69) dX12_comes_41 (by decide) g4 (by omega) (fun c5 => ?_) (fun c5 => ?_)
    · replace hw := hw.1 c5
      refine V.drop (lo' := [(22, o), (0, a1), (0, a2), (0, l3), (1, 0)]) ⟨Or.inr rfl, Or.inr rfl, Or.inr rfl, Or.inr rfl, Or.inl rfl, trivial⟩ ?_
      exact hK69 _ hw
    · replace hw := hw.2 c5
      refine V.aload_n (t := 12) hc dX12_comes_44 rfl rfl ?_
      refine V.gR hc gR_X12_59 (i' := o) rfl dX12_comes_45 ?_
      refine V.iload hc dX12_comes_48 rfl ?_
      refine V.aload_n (t := 12) hc dX12_comes_50 rfl rfl ?_
      refine V.iload hc dX12_comes_51 rfl ?_
      refine V.callVI hc (qX12_isActive G l 13 _ _ _ _ hw) mo_X12_isActive ml_X12_262 (by rfl) rfl rfl (as := [(0, l4)]) rfl rfl rfl rfl rfl ⟨Nat.zero_le _, Nat.zero_le _⟩ dX12_comes_53 (fun x7 h6 hw => ?_)
      obtain ⟨g9, hw⟩ := hw
      obtain ⟨g10, hw⟩ := hw
      refine V.zast hc g9 g10 dX12_comes_56 (fun h8 e => ?_)
      replace hw := hw h8 e
      clear e
      refine V.aload_n (t := 12) hc dX12_comes_57 rfl rfl ?_
      refine V.gR hc gR_X12_25 (i' := o) rfl dX12_comes_58 ?_
      refine V.iload hc dX12_comes_61 rfl ?_
      obtain ⟨g11, hw⟩ := hw
      refine V.ald hc ak_50 g11 dX12_comes_63 ?_
      refine V.istore hc dX12_comes_64 rfl (lo' := [(22, o), (0, a1), (0, a2), (0, l3), (0, h8 50 o l4)]) rfl ?_
      refine V.goto hc (tgt := 38) dX12_comes_66 (by decide) ?_
      exact ih _ _ hw
theorem tX12_comes_127 {G : GG} {p : Program} {l : Launch} {e : Jvm.Env} {s : State} {m : MethodId} {args : Array Value} {below : List Frame} {meth : Method} {c : Code} {P : Int → HP → Prop} (hc : VC G p (rmD 24 0) s m args meth c RX12 cX12_comes 5 24) (hr : meth.sig.returnType = some .boolean) {o : Int} {a1 : Int} {a2 : Int} {l4 : Int} {h : HP} {K105 : Int → HP → Prop} (hK105 : ∀ (x4 : Int) (h : HP), K105 x4 h → V G p l e (rmD 24 0) s m args below meth c (MQ below (QI G P) args s 0 0 (va_Aof G)) 5 105 [(22, o), (1, 0), (1, 0), (1, 0), (0, x4)] [] h 0) (hw : wX12_comes_127 o a1 a2 l4 K105 h) : V G p l e (rmD 24 0) s m args below meth c (MQ below (QI G P) args s 0 0 (va_Aof G)) 5 127 [(22, o), (1, 0), (1, 0), (1, 0), (0, l4)] [] h 0 := by
  refine V.aload_n (t := 12) hc dX12_comes_127 rfl rfl ?_
  refine V.gR hc gR_X12_25 (i' := o) rfl dX12_comes_128 ?_
  refine V.iload hc dX12_comes_131 rfl ?_
  obtain ⟨g25, hw⟩ := hw
  refine V.ald hc ak_50 g25 dX12_comes_133 ?_
  refine V.istore hc dX12_comes_134 rfl (lo' := [(22, o), (1, 0), (1, 0), (1, 0), (0, h 50 o l4)]) rfl ?_
  refine V.goto hc (tgt := 105) dX12_comes_136 (by decide) ?_
  exact hK105 _ _ hw
theorem tX12_comes_105 {G : GG} {p : Program} {l : Launch} {e : Jvm.Env} {s : State} {m : MethodId} {args : Array Value} {below : List Frame} {meth : Method} {c : Code} {P : Int → HP → Prop} (hc : VC G p (rmD 24 0) s m args meth c RX12 cX12_comes 5 24) (hr : meth.sig.returnType = some .boolean) {o : Int} {a1 : Int} {a2 : Int} {K139 : HP → Prop} (hK139 : ∀  (h : HP), K139  h → V G p l e (rmD 24 0) s m args below meth c (MQ below (QI G P) args s 0 0 (va_Aof G)) 5 139 [(1, 0), (1, 0), (1, 0), (1, 0), (1, 0)] [] h 0) : ∀ (f : Nat) (l4 : Int) (h : HP), wX12_comes_105 o a1 a2 K139 f l4 h → V G p l e (rmD 24 0) s m args below meth c (MQ below (QI G P) args s 0 0 (va_Aof G)) 5 105 [(22, o), (1, 0), (1, 0), (1, 0), (0, l4)] [] h 0 := by
  intro f
  induction f with
  | zero =>
    intro l4 h hw
    exact hw.elim
  | succ f ih =>
    intro l4 h hw
    refine V.iload hc dX12_comes_105 rfl ?_
    refine V.iconst hc dX12_comes_107 ?_
    obtain ⟨g20, hw⟩ := hw
    refine V.icmp_eq hc (tgt := 139) dX12_comes_108 (by decide) g20 (by omega) (fun c21 => ?_) (fun c21 => ?_)
    · replace hw := hw.1 c21
      refine V.drop (lo' := [(1, 0), (1, 0), (1, 0), (1, 0), (1, 0)]) ⟨Or.inl rfl, Or.inr rfl, Or.inr rfl, Or.inr rfl, Or.inl rfl, trivial⟩ ?_
      exact hK139 _ hw
    · replace hw := hw.2 c21
      refine V.aload_n (t := 12) hc dX12_comes_111 rfl rfl ?_
      refine V.gR hc gR_X12_59 (i' := o) rfl dX12_comes_112 ?_
      refine V.iload hc dX12_comes_115 rfl ?_
      obtain ⟨g22, hw⟩ := hw
      refine V.zald hc g22 dX12_comes_117 ?_
      obtain ⟨g23, hw⟩ := hw
      refine V.if_ne hc (tgt := 127) dX12_comes_118 (by decide) g23 (fun c24 => ?_) (fun c24 => ?_)
      · replace hw := hw.1 c24
        exact tX12_comes_127 hc hr (fun y4 hy hw => by exact ih _ _ hw) hw
      · replace hw := hw.2 c24
        refine V.aload_n (t := 12) hc dX12_comes_121 rfl rfl ?_
        refine V.iload hc dX12_comes_122 rfl ?_
        refine V.callVV hc (qX12_wake G l _ _ _ _ hw) mo_X12_wake ml_X12_286 (by rfl) rfl rfl (as := [(0, l4)]) rfl rfl rfl rfl rfl ⟨Nat.zero_le _, Nat.zero_le _⟩ dX12_comes_124 (fun h26 hw => ?_)
        exact tX12_comes_127 hc hr (fun y4 hy hw => by exact ih _ _ hw) hw
theorem qX12_comes (G : GG) (l : Launch) (o : Int) (a1 : Int) (a2 : Int) (h : HP) (P : Int → HP → Prop) (hw : wX12_comes o a1 a2 h P) : CnI l G yX12_comes cX12_comes 5 (some .boolean) 24 [(22, o), (0, a1), (0, a2)] h P := by
  refine CnI.of (lo := [(22, o), (0, a1), (0, a2), (1, 0), (1, 0)]) (by decide) rfl rfl rfl ?_
  intro p e s m args below meth c hc hr
  have hc : VC G p (rmD 24 0) s m args meth c RX12 cX12_comes 5 24 := hc
  refine V.sipush hc dX12_comes_0 (by decide) ?_
  refine V.iload_n hc dX12_comes_3 rfl rfl ?_
  refine V.imul hc dX12_comes_4 ?_
  refine V.istore_n hc dX12_comes_5 rfl rfl (lo' := [(22, o), (0, a1), (0, a2), (0, 257 * a1), (1, 0)]) rfl ?_
  refine V.aload_n (t := 12) hc dX12_comes_6 rfl rfl ?_
  refine V.gR hc gR_X12_43 (i' := o) rfl dX12_comes_7 ?_
  refine V.iload_n hc dX12_comes_10 rfl rfl ?_
  refine V.bipush hc dX12_comes_11 (by decide) ?_
  refine V.iadd hc dX12_comes_13 ?_
  obtain ⟨g1, hw⟩ := hw
  refine V.ald hc ak_56 g1 dX12_comes_14 ?_
  refine V.bipush hc dX12_comes_15 (by decide) ?_
  obtain ⟨g2, hw⟩ := hw
  refine V.icmp_ne hc (tgt := 35) dX12_comes_17 (by decide) g2 (by omega) (fun c3 => ?_) (fun c3 => ?_)
  · replace hw := hw.1 c3
    refine V.iload_n hc dX12_comes_35 rfl rfl ?_
    refine V.istore hc dX12_comes_36 rfl (lo' := [(22, o), (0, a1), (0, a2), (0, 257 * a1), (0, a1)]) rfl ?_
    obtain ⟨f12, hw⟩ := hw
    refine tX12_comes_38 hc hr ?_ f12 _ _ hw
    · intro h13 hw
      refine V.aload_n (t := 12) hc dX12_comes_69 rfl rfl ?_
      refine V.gR hc gR_X12_43 (i' := o) rfl dX12_comes_70 ?_
      refine V.iload_n hc dX12_comes_73 rfl rfl ?_
      refine V.bipush hc dX12_comes_74 (by decide) ?_
      refine V.iadd hc dX12_comes_76 ?_
      refine V.aload_n (t := 12) hc dX12_comes_77 rfl rfl ?_
      refine V.gR hc gR_X12_43 (i' := o) rfl dX12_comes_78 ?_
      refine V.iload_n hc dX12_comes_81 rfl rfl ?_
      refine V.bipush hc dX12_comes_82 (by decide) ?_
      refine V.iadd hc dX12_comes_84 ?_
      obtain ⟨g14, hw⟩ := hw
      refine V.ald hc ak_56 g14 dX12_comes_85 ?_
      refine V.iadd hc dX12_comes_86 ?_
      refine V.iload_n hc dX12_comes_87 rfl rfl ?_
      obtain ⟨g16, hw⟩ := hw
      refine V.ast hc ak_56 g16 dX12_comes_88 (fun h15 e => ?_)
      replace hw := hw h15 e
      clear e
      refine V.aload_n (t := 12) hc dX12_comes_89 rfl rfl ?_
      refine V.gR hc gR_X12_43 (i' := o) rfl dX12_comes_90 ?_
      refine V.iload_n hc dX12_comes_93 rfl rfl ?_
      refine V.bipush hc dX12_comes_94 (by decide) ?_
      refine V.iadd hc dX12_comes_96 ?_
      refine V.dup2 hc dX12_comes_97 (by simp) (by simp) ?_
      obtain ⟨g17, hw⟩ := hw
      refine V.ald hc ak_56 g17 dX12_comes_98 ?_
      refine V.iconst hc dX12_comes_99 ?_
      refine V.iadd hc dX12_comes_100 ?_
      obtain ⟨g19, hw⟩ := hw
      refine V.ast hc ak_56 g19 dX12_comes_101 (fun h18 e => ?_)
      replace hw := hw h18 e
      clear e
      refine V.iload_n hc dX12_comes_102 rfl rfl ?_
      refine V.istore hc dX12_comes_103 rfl (lo' := [(22, o), (0, a1), (0, a2), (0, 257 * a1), (0, a1)]) rfl ?_
      obtain ⟨f27, hw⟩ := hw
      refine V.drop (lo' := [(22, o), (1, 0), (1, 0), (1, 0), (0, a1)]) ⟨Or.inr rfl, Or.inl rfl, Or.inl rfl, Or.inl rfl, Or.inr rfl, trivial⟩ ?_
      refine tX12_comes_105 hc hr ?_ f27 _ _ hw
      · intro h28 hw
        refine V.iconst hc dX12_comes_139 ?_
        exact V.zret hc hr dX12_comes_140 (by omega) hw
  · replace hw := hw.2 c3
    refine V.aload_n (t := 12) hc dX12_comes_20 rfl rfl ?_
    refine V.gR hc gR_X12_43 (i' := o) rfl dX12_comes_21 ?_
    refine V.iload_n hc dX12_comes_24 rfl rfl ?_
    refine V.bipush hc dX12_comes_25 (by decide) ?_
    refine V.iadd hc dX12_comes_27 ?_
    refine V.dup2 hc dX12_comes_28 (by simp) (by simp) ?_
    obtain ⟨g29, hw⟩ := hw
    refine V.ald hc ak_56 g29 dX12_comes_29 ?_
    refine V.iconst hc dX12_comes_30 ?_
    refine V.iadd hc dX12_comes_31 ?_
    obtain ⟨g31, hw⟩ := hw
    refine V.ast hc ak_56 g31 dX12_comes_32 (fun h30 e => ?_)
    replace hw := hw h30 e
    clear e
    refine V.iconst hc dX12_comes_33 ?_
    exact V.zret hc hr dX12_comes_34 (by omega) hw
theorem qX12_eligible (G : GG) (l : Launch) (o : Int) (a1 : Int) (h : HP) (P : Int → HP → Prop) (hw : wX12_eligible o a1 h P) : CnI l G yX12_eligible cX12_eligible 3 (some .int) 11 [(22, o), (0, a1)] h P := by
  refine CnI.of (lo := [(22, o), (0, a1), (1, 0)]) (by decide) rfl rfl rfl ?_
  intro p e s m args below meth c hc hr
  have hc : VC G p (rmD 11 0) s m args meth c RX12 cX12_eligible 3 11 := hc
  refine V.iload_n hc dX12_eligible_0 rfl rfl ?_
  refine V.iconst hc dX12_eligible_1 ?_
  refine V.callSI hc (qX12_curveAt G l _ _ _ _ hw) mo_X12_curveAt ml_X12_245 (as := [(0, a1), (0, 0)]) rfl rfl rfl rfl rfl ⟨Nat.zero_le _, Nat.zero_le _⟩ dX12_eligible_2 (fun x2 h1 hw => ?_)
  refine V.istore_n hc dX12_eligible_5 rfl rfl (lo' := [(22, o), (0, a1), (0, x2)]) rfl ?_
  refine V.aload_n (t := 12) hc dX12_eligible_6 rfl rfl ?_
  refine V.iload_n hc dX12_eligible_7 rfl rfl ?_
  refine V.iconst hc dX12_eligible_8 ?_
  refine V.aload_n (t := 12) hc dX12_eligible_9 rfl rfl ?_
  refine V.gR hc gR_X12_43 (i' := o) rfl dX12_eligible_10 ?_
  refine V.sipush hc dX12_eligible_13 (by decide) ?_
  refine V.iload_n hc dX12_eligible_16 rfl rfl ?_
  refine V.imul hc dX12_eligible_17 ?_
  refine V.bipush hc dX12_eligible_18 (by decide) ?_
  refine V.iadd hc dX12_eligible_20 ?_
  obtain ⟨g3, hw⟩ := hw
  refine V.ald hc ak_56 g3 dX12_eligible_21 ?_
  refine V.aload_n (t := 12) hc dX12_eligible_22 rfl rfl ?_
  refine V.gR hc gR_X12_43 (i' := o) rfl dX12_eligible_23 ?_
  refine V.iload_n hc dX12_eligible_26 rfl rfl ?_
  refine V.iconst hc dX12_eligible_27 ?_
  refine V.iadd hc dX12_eligible_28 ?_
  obtain ⟨g4, hw⟩ := hw
  refine V.ald hc ak_56 g4 dX12_eligible_29 ?_
  refine V.aload_n (t := 12) hc dX12_eligible_30 rfl rfl ?_
  refine V.gR hc gR_X12_43 (i' := o) rfl dX12_eligible_31 ?_
  refine V.iload_n hc dX12_eligible_34 rfl rfl ?_
  refine V.iconst hc dX12_eligible_35 ?_
  refine V.iadd hc dX12_eligible_36 ?_
  obtain ⟨g5, hw⟩ := hw
  refine V.ald hc ak_56 g5 dX12_eligible_37 ?_
  obtain ⟨g6, hw⟩ := hw
  obtain ⟨g7, hw⟩ := hw
  refine V.mmax hc ml_X12_255 rfl rfl g6 g7 dX12_eligible_38 ?_
  refine V.callVI hc (qX12_reachAll G l _ _ _ _ _ _ _ hw) mo_X12_reachAll ml_X12_258 (by rfl) rfl rfl (as := [(0, a1), (0, 0), (0, h1 56 o ((257 * a1) + 13)), (0, max (h1 56 o (x2 + 1)) (h1 56 o (x2 + 3)))]) rfl rfl rfl rfl rfl ⟨Nat.zero_le _, Nat.zero_le _⟩ dX12_eligible_41 (fun x9 h8 hw => ?_)
  exact V.iret hc hr dX12_eligible_44 hw
theorem qX12_deadline (G : GG) (l : Launch) (o : Int) (a1 : Int) (h : HP) (P : Int → HP → Prop) (hw : wX12_deadline o a1 h P) : CnI l G yX12_deadline cX12_deadline 2 (some .int) 12 [(22, o), (0, a1)] h P := by
  refine CnI.of (lo := [(22, o), (0, a1)]) (by decide) rfl rfl rfl ?_
  intro p e s m args below meth c hc hr
  have hc : VC G p (rmD 12 0) s m args meth c RX12 cX12_deadline 2 12 := hc
  refine V.aload_n (t := 12) hc dX12_deadline_0 rfl rfl ?_
  refine V.iload_n hc dX12_deadline_1 rfl rfl ?_
  refine V.iconst hc dX12_deadline_2 ?_
  refine V.aload_n (t := 12) hc dX12_deadline_3 rfl rfl ?_
  refine V.gR hc gR_X12_43 (i' := o) rfl dX12_deadline_4 ?_
  refine V.sipush hc dX12_deadline_7 (by decide) ?_
  refine V.iload_n hc dX12_deadline_10 rfl rfl ?_
  refine V.imul hc dX12_deadline_11 ?_
  refine V.bipush hc dX12_deadline_12 (by decide) ?_
  refine V.iadd hc dX12_deadline_14 ?_
  obtain ⟨g1, hw⟩ := hw
  refine V.ald hc ak_56 g1 dX12_deadline_15 ?_
  refine V.aload_n (t := 12) hc dX12_deadline_16 rfl rfl ?_
  refine V.gR hc gR_X12_43 (i' := o) rfl dX12_deadline_17 ?_
  refine V.sipush hc dX12_deadline_20 (by decide) ?_
  refine V.iload_n hc dX12_deadline_23 rfl rfl ?_
  refine V.imul hc dX12_deadline_24 ?_
  refine V.bipush hc dX12_deadline_25 (by decide) ?_
  refine V.iadd hc dX12_deadline_27 ?_
  obtain ⟨g2, hw⟩ := hw
  refine V.ald hc ak_56 g2 dX12_deadline_28 ?_
  refine V.iadd hc dX12_deadline_29 ?_
  refine V.callVI hc (qX12_reachBy G l _ _ _ _ _ _ hw) mo_X12_reachBy ml_X12_289 (by rfl) rfl rfl (as := [(0, a1), (0, 0), (0, (h 56 o ((257 * a1) + 13)) + (h 56 o ((257 * a1) + 18)))]) rfl rfl rfl rfl rfl ⟨Nat.zero_le _, Nat.zero_le _⟩ dX12_deadline_30 (fun x4 h3 hw => ?_)
  exact V.iret hc hr dX12_deadline_33 hw
theorem tX12_fit_99 {G : GG} {p : Program} {l : Launch} {e : Jvm.Env} {s : State} {m : MethodId} {args : Array Value} {below : List Frame} {meth : Method} {c : Code} {r : Nat} {P : Int → HP → Prop} (hc : VC G p (rmD (r + 22) 0) s m args meth c RX12 cX12_fit 6 (r + 22)) (hr : meth.sig.returnType = some .int) {W : Int → Int → HP → (Int → HP → Prop) → Prop} (hW : ∀ (o : Int) (a1 : Int) (h : HP) (P : Int → HP → Prop), W o a1 h P → CnI l G yX12_fit cX12_fit 6 (some .int) (r + 21) [(22, o), (0, a1)] h P) {o : Int} {a1 : Int} {l2 : Int} {l3 : Int} {l4 : Int} {h : HP} {K40 : Int → Int → HP → Prop} (hK40 : ∀ (x3 : Int) (x4 : Int) (h : HP), K40 x3 x4 h → V G p l e (rmD (r + 22) 0) s m args below meth c (MQ below (QI G P) args s 0 0 (va_Aof G)) 6 40 [(22, o), (0, a1), (0, l2), (0, x3), (0, x4), (1, 0)] [] h 0) (hw : wX12_fit_99 W o a1 l2 l3 l4 K40 h) : V G p l e (rmD (r + 22) 0) s m args below meth c (MQ below (QI G P) args s 0 0 (va_Aof G)) 6 99 [(22, o), (0, a1), (0, l2), (0, l3), (0, l4), (1, 0)] [] h 0 := by
  refine V.iinc hc dX12_fit_99 rfl rfl (lo' := [(22, o), (0, a1), (0, l2), (0, l3), (0, l4 + 1), (1, 0)]) rfl ?_
  refine V.goto hc (tgt := 40) dX12_fit_102 (by decide) ?_
  exact hK40 _ _ _ hw
theorem tX12_fit_40 {G : GG} {p : Program} {l : Launch} {e : Jvm.Env} {s : State} {m : MethodId} {args : Array Value} {below : List Frame} {meth : Method} {c : Code} {r : Nat} {P : Int → HP → Prop} (hc : VC G p (rmD (r + 22) 0) s m args meth c RX12 cX12_fit 6 (r + 22)) (hr : meth.sig.returnType = some .int) {W : Int → Int → HP → (Int → HP → Prop) → Prop} (hW : ∀ (o : Int) (a1 : Int) (h : HP) (P : Int → HP → Prop), W o a1 h P → CnI l G yX12_fit cX12_fit 6 (some .int) (r + 21) [(22, o), (0, a1)] h P) {o : Int} {a1 : Int} {l2 : Int} {K105 : Int → HP → Prop} (hK105 : ∀ (x3 : Int) (h : HP), K105 x3 h → V G p l e (rmD (r + 22) 0) s m args below meth c (MQ below (QI G P) args s 0 0 (va_Aof G)) 6 105 [(1, 0), (1, 0), (0, l2), (0, x3), (1, 0), (1, 0)] [] h 0) : ∀ (f : Nat) (l3 : Int) (l4 : Int) (h : HP), wX12_fit_40 W o a1 l2 K105 f l3 l4 h → V G p l e (rmD (r + 22) 0) s m args below meth c (MQ below (QI G P) args s 0 0 (va_Aof G)) 6 40 [(22, o), (0, a1), (0, l2), (0, l3), (0, l4), (1, 0)] [] h 0 := by
  intro f
  induction f with
  | zero =>
    intro l3 l4 h hw
    exact hw.elim
  | succ f ih =>
    intro l3 l4 h hw
    refine V.iload hc dX12_fit_40 rfl ?_
    refine V.aload_n (t := 12) hc dX12_fit_42 rfl rfl ?_
    refine V.gR hc gR_X12_21 (i' := o) rfl dX12_fit_43 ?_
    refine V.iconst hc dX12_fit_46 ?_
    refine V.ald hc ak_49 (by omega) dX12_fit_47 ?_
    obtain ⟨g5, hw⟩ := hw
    obtain ⟨g6, hw⟩ := hw
    refine V.icmp_ge hc (tgt := 105) dX12_fit_48 (by decide) g5 g6 (fun c7 => ?_) (fun c7 => ?_)
    · replace hw := hw.1 c7
      refine V.drop (lo' := [(1, 0), (1, 0), (0, l2), (0, l3), (1, 0), (1, 0)]) ⟨Or.inl rfl, Or.inl rfl, Or.inr rfl, Or.inr rfl, Or.inl rfl, Or.inr rfl, trivial⟩ ?_
      exact hK105 _ _ hw
    · replace hw := hw.2 c7
      refine V.aload_n (t := 12) hc dX12_fit_51 rfl rfl ?_
      refine V.gR hc gR_X12_25 (i' := o) rfl dX12_fit_52 ?_
      refine V.iload hc dX12_fit_55 rfl ?_
      obtain ⟨g8, hw⟩ := hw
      refine V.ald hc ak_50 g8 dX12_fit_57 ?_
      refine V.iload_n hc dX12_fit_58 rfl rfl ?_
      obtain ⟨g9, hw⟩ := hw
      obtain ⟨g10, hw⟩ := hw
      refine V.icmp_ne hc (tgt := 99) dX12_fit_59 (by decide) g9 g10 (fun c11 => ?_) (fun c11 => ?_)
      · replace hw := hw.1 c11
        exact tX12_fit_99 hc hr hW (fun y3 y4 hy hw => by exact ih _ _ _ hw) hw
      · replace hw := hw.2 c11
        refine V.aload_n (t := 12) hc dX12_fit_62 rfl rfl ?_
        refine V.iload hc dX12_fit_63 rfl ?_
        refine V.callVI hc (qX12_isActive G l 13 _ _ _ _ hw) mo_X12_isActive ml_X12_262 (by rfl) rfl rfl (as := [(0, l4)]) rfl rfl (Nat.ble_eq_true_of_le (by omega)) rfl rfl ⟨Nat.zero_le _, Nat.zero_le _⟩ dX12_fit_65 (fun x13 h12 hw => ?_)
        obtain ⟨g14, hw⟩ := hw
        refine V.if_ne hc (tgt := 74) dX12_fit_68 (by decide) g14 (fun c15 => ?_) (fun c15 => ?_)
        · replace hw := hw.1 c15
          refine V.aload_n (t := 12) hc dX12_fit_74 rfl rfl ?_
          refine V.iload hc dX12_fit_75 rfl ?_
          refine V.callVI hc (hW _ _ _ _ hw) mo_X12_fit ml_X12_293 (by rfl) rfl rfl (as := [(0, l4)]) rfl rfl (Nat.ble_eq_true_of_le (by omega)) rfl rfl ⟨Nat.zero_le _, Nat.zero_le _⟩ dX12_fit_77 (fun x17 h16 hw => ?_)
          refine V.istore hc dX12_fit_80 rfl (lo' := [(22, o), (0, a1), (0, l2), (0, l3), (0, l4), (0, x17)]) rfl ?_
          refine V.iload_n hc dX12_fit_82 rfl rfl ?_
          refine V.iconst hc dX12_fit_83 ?_
          obtain ⟨q22, hw⟩ := hw
          have kJ23 : ∀ t21 : Int, ((¬ l3 = (-1) → t21 = min l3 x17) ∧ (l3 = (-1) → t21 = x17)) → V G p l e (rmD (r + 22) 0) s m args below meth c (MQ below (QI G P) args s 0 0 (va_Aof G)) 6 98 [(22, o), (0, a1), (0, l2), (1, 0), (0, l4), (1, 0)] [(0, t21)] h16 0 := by
            intro t21 he
            replace hw := hw t21 he
            clear he
            refine V.istore_n hc dX12_fit_98 rfl rfl (lo' := [(22, o), (0, a1), (0, l2), (0, t21), (0, l4), (1, 0)]) rfl ?_
            exact tX12_fit_99 hc hr hW (fun y3 y4 hy hw => by exact ih _ _ _ hw) hw
          obtain ⟨g18, q24⟩ := q22
          refine V.icmp_ne hc (tgt := 92) dX12_fit_84 (by decide) g18 (by omega) (fun c25 => ?_) (fun c25 => ?_)
          · have q26 := q24 c25
            obtain ⟨g19, g20⟩ := q26
            refine V.iload_n hc dX12_fit_92 rfl rfl ?_
            refine V.iload hc dX12_fit_93 rfl ?_
            refine V.mmin hc ml_X12_151 rfl rfl g19 g20 dX12_fit_95 ?_
            refine V.drop (lo' := [(22, o), (0, a1), (0, l2), (1, 0), (0, l4), (1, 0)]) ⟨Or.inr rfl, Or.inr rfl, Or.inr rfl, Or.inl rfl, Or.inr rfl, Or.inl rfl, trivial⟩ ?_
            exact kJ23 _ ⟨fun _ => rfl, (fun q => absurd q c25)⟩
          · refine V.iload hc dX12_fit_87 rfl ?_
            refine V.goto hc (tgt := 98) dX12_fit_89 (by decide) ?_
            refine V.drop (lo' := [(22, o), (0, a1), (0, l2), (1, 0), (0, l4), (1, 0)]) ⟨Or.inr rfl, Or.inr rfl, Or.inr rfl, Or.inl rfl, Or.inr rfl, Or.inl rfl, trivial⟩ ?_
            exact kJ23 _ ⟨(fun q => absurd c25 q), fun _ => rfl⟩
        · replace hw := hw.2 c15
          refine V.goto hc (tgt := 99) dX12_fit_71 (by decide) ?_
          exact tX12_fit_99 hc hr hW (fun y3 y4 hy hw => by exact ih _ _ _ hw) hw
theorem tX12_fit_32 {G : GG} {p : Program} {l : Launch} {e : Jvm.Env} {s : State} {m : MethodId} {args : Array Value} {below : List Frame} {meth : Method} {c : Code} {r : Nat} {P : Int → HP → Prop} (hc : VC G p (rmD (r + 22) 0) s m args meth c RX12 cX12_fit 6 (r + 22)) (hr : meth.sig.returnType = some .int) {W : Int → Int → HP → (Int → HP → Prop) → Prop} (hW : ∀ (o : Int) (a1 : Int) (h : HP) (P : Int → HP → Prop), W o a1 h P → CnI l G yX12_fit cX12_fit 6 (some .int) (r + 21) [(22, o), (0, a1)] h P) {o : Int} {a1 : Int} {s0 : Int} {h : HP} (hw : wX12_fit_32 W o a1 s0 P h) : V G p l e (rmD (r + 22) 0) s m args below meth c (MQ below (QI G P) args s 0 0 (va_Aof G)) 6 32 [(22, o), (0, a1), (1, 0), (1, 0), (1, 0), (1, 0)] [(0, s0)] h 0 := by
  refine V.istore_n hc dX12_fit_32 rfl rfl (lo' := [(22, o), (0, a1), (0, s0), (1, 0), (1, 0), (1, 0)]) rfl ?_
  refine V.iconst hc dX12_fit_33 ?_
  refine V.istore_n hc dX12_fit_34 rfl rfl (lo' := [(22, o), (0, a1), (0, s0), (0, (-1)), (1, 0), (1, 0)]) rfl ?_
  refine V.iload_n hc dX12_fit_35 rfl rfl ?_
  refine V.iconst hc dX12_fit_36 ?_
  refine V.iadd hc dX12_fit_37 ?_
  refine V.istore hc dX12_fit_38 rfl (lo' := [(22, o), (0, a1), (0, s0), (0, (-1)), (0, a1 + 1), (1, 0)]) rfl ?_
  obtain ⟨f27, hw⟩ := hw
  refine tX12_fit_40 hc hr hW ?_ f27 _ _ _ hw
  · intro l28 h29 hw
    refine V.iload_n hc dX12_fit_105 rfl rfl ?_
    refine V.iload_n hc dX12_fit_106 rfl rfl ?_
    obtain ⟨g30, hw⟩ := hw
    obtain ⟨g31, hw⟩ := hw
    refine V.mmax hc ml_X12_255 rfl rfl g30 g31 dX12_fit_107 ?_
    exact V.iret hc hr dX12_fit_110 hw
theorem qX12_fit_b (G : GG) (l : Launch) {r : Nat} {W : Int → Int → HP → (Int → HP → Prop) → Prop} (hW : ∀ (o : Int) (a1 : Int) (h : HP) (P : Int → HP → Prop), W o a1 h P → CnI l G yX12_fit cX12_fit 6 (some .int) (r + 21) [(22, o), (0, a1)] h P) (o : Int) (a1 : Int) (h : HP) (P : Int → HP → Prop) (hw : wX12_fit_b W o a1 h P) : CnI l G yX12_fit cX12_fit 6 (some .int) (r + 22) [(22, o), (0, a1)] h P := by
  refine CnI.of (lo := [(22, o), (0, a1), (1, 0), (1, 0), (1, 0), (1, 0)]) (by decide) rfl rfl rfl ?_
  intro p e s m args below meth c hc hr
  have hc : VC G p (rmD (r + 22) 0) s m args meth c RX12 cX12_fit 6 (r + 22) := hc
  refine V.aload_n (t := 12) hc dX12_fit_0 rfl rfl ?_
  refine V.iload_n hc dX12_fit_1 rfl rfl ?_
  refine V.iconst hc dX12_fit_2 ?_
  refine V.callVI hc (qX12_hasCurve G l _ _ _ _ _ hw) mo_X12_hasCurve ml_X12_283 (by rfl) rfl rfl (as := [(0, a1), (0, 2)]) rfl rfl (Nat.ble_eq_true_of_le (by omega)) rfl rfl ⟨Nat.zero_le _, Nat.zero_le _⟩ dX12_fit_3 (fun x2 h1 hw => ?_)
  obtain ⟨g3, hw⟩ := hw
  refine V.if_eq hc (tgt := 31) dX12_fit_6 (by decide) g3 (fun c4 => ?_) (fun c4 => ?_)
  · replace hw := hw.1 c4
    refine V.iconst hc dX12_fit_31 ?_
    exact tX12_fit_32 hc hr hW  hw
  · replace hw := hw.2 c4
    refine V.aload_n (t := 12) hc dX12_fit_9 rfl rfl ?_
    refine V.iload_n hc dX12_fit_10 rfl rfl ?_
    refine V.iconst hc dX12_fit_11 ?_
    refine V.aload_n (t := 12) hc dX12_fit_12 rfl rfl ?_
    refine V.gR hc gR_X12_43 (i' := o) rfl dX12_fit_13 ?_
    refine V.sipush hc dX12_fit_16 (by decide) ?_
    refine V.iload_n hc dX12_fit_19 rfl rfl ?_
    refine V.imul hc dX12_fit_20 ?_
    refine V.bipush hc dX12_fit_21 (by decide) ?_
    refine V.iadd hc dX12_fit_23 ?_
    obtain ⟨g32, hw⟩ := hw
    refine V.ald hc ak_56 g32 dX12_fit_24 ?_
    refine V.callVI hc (qX12_reachBy G l _ _ _ _ _ _ hw) mo_X12_reachBy ml_X12_289 (by rfl) rfl rfl (as := [(0, a1), (0, 2), (0, h1 56 o ((257 * a1) + 12))]) rfl rfl (Nat.ble_eq_true_of_le (by omega)) rfl rfl ⟨Nat.zero_le _, Nat.zero_le _⟩ dX12_fit_25 (fun x34 h33 hw => ?_)
    refine V.goto hc (tgt := 32) dX12_fit_28 (by decide) ?_
    exact tX12_fit_32 hc hr hW  hw
theorem qX12_fit (G : GG) (l : Launch) : ∀ (r : Nat) (o : Int) (a1 : Int) (h : HP) (P : Int → HP → Prop), wX12_fit r o a1 h P → CnI l G yX12_fit cX12_fit 6 (some .int) (r + 22) [(22, o), (0, a1)] h P
  | 0, _, _, _, _ => fun hw => hw.elim
  | r + 1, o, a1, h, P => fun hw => qX12_fit_b G l (r := r + 1) (W := wX12_fit r) (fun o a1 h P q => qX12_fit G l r o a1 h P q) o a1 h P hw
theorem tX12_byGrant_86 {G : GG} {p : Program} {l : Launch} {e : Jvm.Env} {s : State} {m : MethodId} {args : Array Value} {below : List Frame} {meth : Method} {c : Code} {P : Int → HP → Prop} (hc : VC G p (rmD 13 0) s m args meth c RX12 cX12_byGrant 5 13) (hr : meth.sig.returnType = some .int) {o : Int} {l1 : Int} {l2 : Int} {l3 : Int} {h : HP} {K6 : Int → Int → Int → HP → Prop} (hK6 : ∀ (x1 : Int) (x2 : Int) (x3 : Int) (h : HP), K6 x1 x2 x3 h → V G p l e (rmD 13 0) s m args below meth c (MQ below (QI G P) args s 0 0 (va_Aof G)) 5 6 [(22, o), (0, x1), (0, x2), (0, x3), (1, 0)] [] h 0) (hw : wX12_byGrant_86 o l1 l2 l3 K6 h) : V G p l e (rmD 13 0) s m args below meth c (MQ below (QI G P) args s 0 0 (va_Aof G)) 5 86 [(22, o), (0, l1), (0, l2), (0, l3), (1, 0)] [] h 0 := by
  refine V.iinc hc dX12_byGrant_86 rfl rfl (lo' := [(22, o), (0, l1), (0, l2), (0, l3 + 1), (1, 0)]) rfl ?_
  refine V.goto hc (tgt := 6) dX12_byGrant_89 (by decide) ?_
  exact hK6 _ _ _ _ hw
theorem tX12_byGrant_6 {G : GG} {p : Program} {l : Launch} {e : Jvm.Env} {s : State} {m : MethodId} {args : Array Value} {below : List Frame} {meth : Method} {c : Code} {P : Int → HP → Prop} (hc : VC G p (rmD 13 0) s m args meth c RX12 cX12_byGrant 5 13) (hr : meth.sig.returnType = some .int) {o : Int} {K92 : Int → HP → Prop} (hK92 : ∀ (x1 : Int) (h : HP), K92 x1 h → V G p l e (rmD 13 0) s m args below meth c (MQ below (QI G P) args s 0 0 (va_Aof G)) 5 92 [(1, 0), (0, x1), (1, 0), (1, 0), (1, 0)] [] h 0) : ∀ (f : Nat) (l1 : Int) (l2 : Int) (l3 : Int) (h : HP), wX12_byGrant_6 o K92 f l1 l2 l3 h → V G p l e (rmD 13 0) s m args below meth c (MQ below (QI G P) args s 0 0 (va_Aof G)) 5 6 [(22, o), (0, l1), (0, l2), (0, l3), (1, 0)] [] h 0 := by
  intro f
  induction f with
  | zero =>
    intro l1 l2 l3 h hw
    exact hw.elim
  | succ f ih =>
    intro l1 l2 l3 h hw
    refine V.iload_n hc dX12_byGrant_6 rfl rfl ?_
    refine V.aload_n (t := 12) hc dX12_byGrant_7 rfl rfl ?_
    refine V.gR hc gR_X12_21 (i' := o) rfl dX12_byGrant_8 ?_
    refine V.iconst hc dX12_byGrant_11 ?_
    refine V.ald hc ak_49 (by omega) dX12_byGrant_12 ?_
    obtain ⟨g1, hw⟩ := hw
    obtain ⟨g2, hw⟩ := hw
    refine V.icmp_ge hc (tgt := 92) dX12_byGrant_13 (by decide) g1 g2 (fun c3 => ?_) (fun c3 => ?_)
    · replace hw := hw.1 c3
      refine V.drop (lo' := [(1, 0), (0, l1), (1, 0), (1, 0), (1, 0)]) ⟨Or.inl rfl, Or.inr rfl, Or.inl rfl, Or.inl rfl, Or.inr rfl, trivial⟩ ?_
      exact hK92 _ _ hw
    · replace hw := hw.2 c3
      refine V.aload_n (t := 12) hc dX12_byGrant_16 rfl rfl ?_
      refine V.gR hc gR_X12_43 (i' := o) rfl dX12_byGrant_17 ?_
      refine V.sipush hc dX12_byGrant_20 (by decide) ?_
      refine V.iload_n hc dX12_byGrant_23 rfl rfl ?_
      refine V.imul hc dX12_byGrant_24 ?_
      refine V.bipush hc dX12_byGrant_25 (by decide) ?_
      refine V.iadd hc dX12_byGrant_27 ?_
      obtain ⟨g4, hw⟩ := hw
      refine V.ald hc ak_56 g4 dX12_byGrant_28 ?_
      obtain ⟨g5, hw⟩ := hw
      refine V.if_eq hc (tgt := 86) dX12_byGrant_29 (by decide) g5 (fun c6 => ?_) (fun c6 => ?_)
      · replace hw := hw.1 c6
        exact tX12_byGrant_86 hc hr (fun y1 y2 y3 hy hw => by exact ih _ _ _ _ hw) hw
      · replace hw := hw.2 c6
        refine V.aload_n (t := 12) hc dX12_byGrant_32 rfl rfl ?_
        refine V.iload_n hc dX12_byGrant_33 rfl rfl ?_
        refine V.iconst hc dX12_byGrant_34 ?_
        refine V.callVI hc (qX12_hasCurve G l _ _ _ _ _ hw) mo_X12_hasCurve ml_X12_283 (by rfl) rfl rfl (as := [(0, l3), (0, 0)]) rfl rfl rfl rfl rfl ⟨Nat.zero_le _, Nat.zero_le _⟩ dX12_byGrant_35 (fun x8 h7 hw => ?_)
        obtain ⟨g9, hw⟩ := hw
        refine V.if_eq hc (tgt := 86) dX12_byGrant_38 (by decide) g9 (fun c10 => ?_) (fun c10 => ?_)
        · replace hw := hw.1 c10
          exact tX12_byGrant_86 hc hr (fun y1 y2 y3 hy hw => by exact ih _ _ _ _ hw) hw
        · replace hw := hw.2 c10
          refine V.aload_n (t := 12) hc dX12_byGrant_41 rfl rfl ?_
          refine V.iload_n hc dX12_byGrant_42 rfl rfl ?_
          refine V.callVI hc (qX12_eligible G l _ _ _ _ hw) mo_X12_eligible ml_X12_296 (by rfl) rfl rfl (as := [(0, l3)]) rfl rfl rfl rfl rfl ⟨Nat.zero_le _, Nat.zero_le _⟩ dX12_byGrant_43 (fun x12 h11 hw => ?_)
          refine V.aload_n (t := 12) hc dX12_byGrant_46 rfl rfl ?_
          refine V.gR hc gR_X12_43 (i' := o) rfl dX12_byGrant_47 ?_
          refine V.sipush hc dX12_byGrant_50 (by decide) ?_
          refine V.ald hc ak_56 (by omega) dX12_byGrant_53 ?_
          obtain ⟨g13, hw⟩ := hw
          obtain ⟨g14, hw⟩ := hw
          refine V.icmp_le hc (tgt := 60) dX12_byGrant_54 (by decide) g13 g14 (fun c15 => ?_) (fun c15 => ?_)
          · replace hw := hw.1 c15
            refine V.aload_n (t := 12) hc dX12_byGrant_60 rfl rfl ?_
            refine V.iload_n hc dX12_byGrant_61 rfl rfl ?_
            refine V.callVI hc (qX12_deadline G l _ _ _ _ hw) mo_X12_deadline ml_X12_299 (by rfl) rfl rfl (as := [(0, l3)]) rfl rfl rfl rfl rfl ⟨Nat.zero_le _, Nat.zero_le _⟩ dX12_byGrant_62 (fun x17 h16 hw => ?_)
            refine V.istore hc dX12_byGrant_65 rfl (lo' := [(22, o), (0, l1), (0, l2), (0, l3), (0, x17)]) rfl ?_
            refine V.iload_n hc dX12_byGrant_67 rfl rfl ?_
            refine V.iconst hc dX12_byGrant_68 ?_
            obtain ⟨q23, hw⟩ := hw
            have kJ24 : ∀ t21 t22 : Int, ((l1 = (-1) → (t21 = l3 ∧ t22 = x17)) ∧ (¬ l1 = (-1) → ((x17 < l2 → (t21 = l3 ∧ t22 = x17)) ∧ (¬ x17 < l2 → (t21 = l1 ∧ t22 = l2))))) → V G p l e (rmD 13 0) s m args below meth c (MQ below (QI G P) args s 0 0 (va_Aof G)) 5 86 [(22, o), (0, t21), (0, t22), (0, l3), (1, 0)] [] h16 0 := by
              intro t21 t22 he
              replace hw := hw t21 t22 he
              clear he
              exact tX12_byGrant_86 hc hr (fun y1 y2 y3 hy hw => by exact ih _ _ _ _ hw) hw
            obtain ⟨g18, q25⟩ := q23
            refine V.icmp_eq hc (tgt := 81) dX12_byGrant_69 (by decide) g18 (by omega) (fun c26 => ?_) (fun c26 => ?_)
            · refine V.iload_n hc dX12_byGrant_81 rfl rfl ?_
              refine V.istore_n hc dX12_byGrant_82 rfl rfl (lo' := [(22, o), (0, l3), (0, l2), (0, l3), (0, x17)]) rfl ?_
              refine V.iload hc dX12_byGrant_83 rfl ?_
              refine V.istore_n hc dX12_byGrant_85 rfl rfl (lo' := [(22, o), (0, l3), (0, x17), (0, l3), (0, x17)]) rfl ?_
              refine V.drop (lo' := [(22, o), (0, l3), (0, x17), (0, l3), (1, 0)]) ⟨Or.inr rfl, Or.inr rfl, Or.inr rfl, Or.inr rfl, Or.inl rfl, trivial⟩ ?_
              exact kJ24 _ _ ⟨fun _ => ⟨rfl, rfl⟩, (fun q => absurd c26 q)⟩
            · have q27 := q25 c26
              obtain ⟨g19, g20⟩ := q27
              refine V.iload hc dX12_byGrant_72 rfl ?_
              refine V.iload_n hc dX12_byGrant_74 rfl rfl ?_
              refine V.icmp_lt hc (tgt := 81) dX12_byGrant_75 (by decide) g19 g20 (fun c28 => ?_) (fun c28 => ?_)
              · refine V.iload_n hc dX12_byGrant_81 rfl rfl ?_
                refine V.istore_n hc dX12_byGrant_82 rfl rfl (lo' := [(22, o), (0, l3), (0, l2), (0, l3), (0, x17)]) rfl ?_
                refine V.iload hc dX12_byGrant_83 rfl ?_
                refine V.istore_n hc dX12_byGrant_85 rfl rfl (lo' := [(22, o), (0, l3), (0, x17), (0, l3), (0, x17)]) rfl ?_
                refine V.drop (lo' := [(22, o), (0, l3), (0, x17), (0, l3), (1, 0)]) ⟨Or.inr rfl, Or.inr rfl, Or.inr rfl, Or.inr rfl, Or.inl rfl, trivial⟩ ?_
                exact kJ24 _ _ ⟨(fun q => absurd q c26), fun _ => ⟨fun _ => ⟨rfl, rfl⟩, (fun q => absurd c28 q)⟩⟩
              · refine V.goto hc (tgt := 86) dX12_byGrant_78 (by decide) ?_
                refine V.drop (lo' := [(22, o), (0, l1), (0, l2), (0, l3), (1, 0)]) ⟨Or.inr rfl, Or.inr rfl, Or.inr rfl, Or.inr rfl, Or.inl rfl, trivial⟩ ?_
                exact kJ24 _ _ ⟨(fun q => absurd q c26), fun _ => ⟨(fun q => absurd q c28), fun _ => ⟨rfl, rfl⟩⟩⟩
          · replace hw := hw.2 c15
            refine V.goto hc (tgt := 86) dX12_byGrant_57 (by decide) ?_
            exact tX12_byGrant_86 hc hr (fun y1 y2 y3 hy hw => by exact ih _ _ _ _ hw) hw
theorem qX12_byGrant (G : GG) (l : Launch) (o : Int) (h : HP) (P : Int → HP → Prop) (hw : wX12_byGrant o h P) : CnI l G yX12_byGrant cX12_byGrant 5 (some .int) 13 [(22, o)] h P := by
  refine CnI.of (lo := [(22, o), (1, 0), (1, 0), (1, 0), (1, 0)]) (by decide) rfl rfl rfl ?_
  intro p e s m args below meth c hc hr
  have hc : VC G p (rmD 13 0) s m args meth c RX12 cX12_byGrant 5 13 := hc
  refine V.iconst hc dX12_byGrant_0 ?_
  refine V.istore_n hc dX12_byGrant_1 rfl rfl (lo' := [(22, o), (0, (-1)), (1, 0), (1, 0), (1, 0)]) rfl ?_
  refine V.iconst hc dX12_byGrant_2 ?_
  refine V.istore_n hc dX12_byGrant_3 rfl rfl (lo' := [(22, o), (0, (-1)), (0, 0), (1, 0), (1, 0)]) rfl ?_
  refine V.iconst hc dX12_byGrant_4 ?_
  refine V.istore_n hc dX12_byGrant_5 rfl rfl (lo' := [(22, o), (0, (-1)), (0, 0), (0, 0), (1, 0)]) rfl ?_
  obtain ⟨f29, hw⟩ := hw
  refine tX12_byGrant_6 hc hr ?_ f29 _ _ _ _ hw
  · intro l30 h31 hw
    refine V.iload_n hc dX12_byGrant_92 rfl rfl ?_
    exact V.iret hc hr dX12_byGrant_93 hw
theorem tX12_leastIn_87 {G : GG} {p : Program} {l : Launch} {e : Jvm.Env} {s : State} {m : MethodId} {args : Array Value} {below : List Frame} {meth : Method} {c : Code} {P : Int → HP → Prop} (hc : VC G p (rmD 36 0) s m args meth c RX12 cX12_leastIn 4 36) (hr : meth.sig.returnType = some .int) {o : Int} {a1 : Int} {l2 : Int} {l3 : Int} {h : HP} {K4 : Int → Int → HP → Prop} (hK4 : ∀ (x2 : Int) (x3 : Int) (h : HP), K4 x2 x3 h → V G p l e (rmD 36 0) s m args below meth c (MQ below (QI G P) args s 0 0 (va_Aof G)) 4 4 [(22, o), (0, a1), (0, x2), (0, x3)] [] h 0) (hw : wX12_leastIn_87 o a1 l2 l3 K4 h) : V G p l e (rmD 36 0) s m args below meth c (MQ below (QI G P) args s 0 0 (va_Aof G)) 4 87 [(22, o), (0, a1), (0, l2), (0, l3)] [] h 0 := by
  refine V.iinc hc dX12_leastIn_87 rfl rfl (lo' := [(22, o), (0, a1), (0, l2), (0, l3 + 1)]) rfl ?_
  refine V.goto hc (tgt := 4) dX12_leastIn_90 (by decide) ?_
  exact hK4 _ _ _ hw
theorem tX12_leastIn_4 {G : GG} {p : Program} {l : Launch} {e : Jvm.Env} {s : State} {m : MethodId} {args : Array Value} {below : List Frame} {meth : Method} {c : Code} {P : Int → HP → Prop} (hc : VC G p (rmD 36 0) s m args meth c RX12 cX12_leastIn 4 36) (hr : meth.sig.returnType = some .int) {o : Int} {a1 : Int} {K93 : Int → HP → Prop} (hK93 : ∀ (x2 : Int) (h : HP), K93 x2 h → V G p l e (rmD 36 0) s m args below meth c (MQ below (QI G P) args s 0 0 (va_Aof G)) 4 93 [(1, 0), (1, 0), (0, x2), (1, 0)] [] h 0) : ∀ (f : Nat) (l2 : Int) (l3 : Int) (h : HP), wX12_leastIn_4 o a1 K93 f l2 l3 h → V G p l e (rmD 36 0) s m args below meth c (MQ below (QI G P) args s 0 0 (va_Aof G)) 4 4 [(22, o), (0, a1), (0, l2), (0, l3)] [] h 0 := by
  intro f
  induction f with
  | zero =>
    intro l2 l3 h hw
    exact hw.elim
  | succ f ih =>
    intro l2 l3 h hw
    refine V.iload_n hc dX12_leastIn_4 rfl rfl ?_
    refine V.aload_n (t := 12) hc dX12_leastIn_5 rfl rfl ?_
    refine V.gR hc gR_X12_21 (i' := o) rfl dX12_leastIn_6 ?_
    refine V.iconst hc dX12_leastIn_9 ?_
    refine V.ald hc ak_49 (by omega) dX12_leastIn_10 ?_
    obtain ⟨g1, hw⟩ := hw
    obtain ⟨g2, hw⟩ := hw
    refine V.icmp_ge hc (tgt := 93) dX12_leastIn_11 (by decide) g1 g2 (fun c3 => ?_) (fun c3 => ?_)
    · replace hw := hw.1 c3
      refine V.drop (lo' := [(1, 0), (1, 0), (0, l2), (1, 0)]) ⟨Or.inl rfl, Or.inl rfl, Or.inr rfl, Or.inl rfl, trivial⟩ ?_
      exact hK93 _ _ hw
    · replace hw := hw.2 c3
      refine V.aload_n (t := 12) hc dX12_leastIn_14 rfl rfl ?_
      refine V.gR hc gR_X12_25 (i' := o) rfl dX12_leastIn_15 ?_
      refine V.iload_n hc dX12_leastIn_18 rfl rfl ?_
      obtain ⟨g4, hw⟩ := hw
      refine V.ald hc ak_50 g4 dX12_leastIn_19 ?_
      refine V.iload_n hc dX12_leastIn_20 rfl rfl ?_
      obtain ⟨g5, hw⟩ := hw
      obtain ⟨g6, hw⟩ := hw
      refine V.icmp_ne hc (tgt := 87) dX12_leastIn_21 (by decide) g5 g6 (fun c7 => ?_) (fun c7 => ?_)
      · replace hw := hw.1 c7
        exact tX12_leastIn_87 hc hr (fun y2 y3 hy hw => by exact ih _ _ _ hw) hw
      · replace hw := hw.2 c7
        refine V.aload_n (t := 12) hc dX12_leastIn_24 rfl rfl ?_
        refine V.iload_n hc dX12_leastIn_25 rfl rfl ?_
        refine V.callVI hc (qX12_isActive G l 13 _ _ _ _ hw) mo_X12_isActive ml_X12_262 (by rfl) rfl rfl (as := [(0, l3)]) rfl rfl rfl rfl rfl ⟨Nat.zero_le _, Nat.zero_le _⟩ dX12_leastIn_26 (fun x9 h8 hw => ?_)
        obtain ⟨g10, hw⟩ := hw
        refine V.if_eq hc (tgt := 87) dX12_leastIn_29 (by decide) g10 (fun c11 => ?_) (fun c11 => ?_)
        · replace hw := hw.1 c11
          exact tX12_leastIn_87 hc hr (fun y2 y3 hy hw => by exact ih _ _ _ hw) hw
        · replace hw := hw.2 c11
          refine V.aload_n (t := 12) hc dX12_leastIn_32 rfl rfl ?_
          refine V.iload_n hc dX12_leastIn_33 rfl rfl ?_
          refine V.callVI hc (qX12_fit G l 13 _ _ _ _ hw) mo_X12_fit ml_X12_293 (by rfl) rfl rfl (as := [(0, l3)]) rfl rfl rfl rfl rfl ⟨Nat.zero_le _, Nat.zero_le _⟩ dX12_leastIn_34 (fun x13 h12 hw => ?_)
          refine V.aload_n (t := 12) hc dX12_leastIn_37 rfl rfl ?_
          refine V.gR hc gR_X12_43 (i' := o) rfl dX12_leastIn_38 ?_
          refine V.sipush hc dX12_leastIn_41 (by decide) ?_
          refine V.ald hc ak_56 (by omega) dX12_leastIn_44 ?_
          obtain ⟨q22, hw⟩ := hw
          have kJ23 : ∀ t21 : Int, ((x13 ≤ h12 56 o 3084 → ((l2 = (-1) → t21 = l3) ∧ (¬ l2 = (-1) → ((h12 56 o ((257 * l2) + 14) ≤ h12 56 o ((257 * l3) + 14) → t21 = l2) ∧ (¬ h12 56 o ((257 * l2) + 14) ≤ h12 56 o ((257 * l3) + 14) → t21 = l3))))) ∧ (¬ x13 ≤ h12 56 o 3084 → t21 = l2)) → V G p l e (rmD 36 0) s m args below meth c (MQ below (QI G P) args s 0 0 (va_Aof G)) 4 87 [(22, o), (0, a1), (0, t21), (0, l3)] [] h12 0 := by
            intro t21 he
            replace hw := hw t21 he
            clear he
            exact tX12_leastIn_87 hc hr (fun y2 y3 hy hw => by exact ih _ _ _ hw) hw
          obtain ⟨g14, g15, q24⟩ := q22
          refine V.icmp_le hc (tgt := 51) dX12_leastIn_45 (by decide) g14 g15 (fun c25 => ?_) (fun c25 => ?_)
          · have q26 := q24 c25
            obtain ⟨g16, q27⟩ := q26
            refine V.iload_n hc dX12_leastIn_51 rfl rfl ?_
            refine V.iconst hc dX12_leastIn_52 ?_
            refine V.icmp_eq hc (tgt := 85) dX12_leastIn_53 (by decide) g16 (by omega) (fun c28 => ?_) (fun c28 => ?_)
            · refine V.iload_n hc dX12_leastIn_85 rfl rfl ?_
              refine V.istore_n hc dX12_leastIn_86 rfl rfl (lo' := [(22, o), (0, a1), (0, l3), (0, l3)]) rfl ?_
              exact kJ23 _ ⟨fun _ => ⟨fun _ => rfl, (fun q => absurd c28 q)⟩, (fun q => absurd c25 q)⟩
            · have q29 := q27 c28
              obtain ⟨g17, g18, g19, g20⟩ := q29
              refine V.aload_n (t := 12) hc dX12_leastIn_56 rfl rfl ?_
              refine V.gR hc gR_X12_43 (i' := o) rfl dX12_leastIn_57 ?_
              refine V.sipush hc dX12_leastIn_60 (by decide) ?_
              refine V.iload_n hc dX12_leastIn_63 rfl rfl ?_
              refine V.imul hc dX12_leastIn_64 ?_
              refine V.bipush hc dX12_leastIn_65 (by decide) ?_
              refine V.iadd hc dX12_leastIn_67 ?_
              refine V.ald hc ak_56 g17 dX12_leastIn_68 ?_
              refine V.aload_n (t := 12) hc dX12_leastIn_69 rfl rfl ?_
              refine V.gR hc gR_X12_43 (i' := o) rfl dX12_leastIn_70 ?_
              refine V.sipush hc dX12_leastIn_73 (by decide) ?_
              refine V.iload_n hc dX12_leastIn_76 rfl rfl ?_
              refine V.imul hc dX12_leastIn_77 ?_
              refine V.bipush hc dX12_leastIn_78 (by decide) ?_
              refine V.iadd hc dX12_leastIn_80 ?_
              refine V.ald hc ak_56 g18 dX12_leastIn_81 ?_
              refine V.icmp_ge hc (tgt := 87) dX12_leastIn_82 (by decide) g19 g20 (fun c30 => ?_) (fun c30 => ?_)
              · exact kJ23 _ ⟨fun _ => ⟨(fun q => absurd q c28), fun _ => ⟨fun _ => rfl, (fun q => absurd c30 q)⟩⟩, (fun q => absurd c25 q)⟩
              · refine V.iload_n hc dX12_leastIn_85 rfl rfl ?_
                refine V.istore_n hc dX12_leastIn_86 rfl rfl (lo' := [(22, o), (0, a1), (0, l3), (0, l3)]) rfl ?_
                exact kJ23 _ ⟨fun _ => ⟨(fun q => absurd q c28), fun _ => ⟨(fun q => absurd q c30), fun _ => rfl⟩⟩, (fun q => absurd c25 q)⟩
          · refine V.goto hc (tgt := 87) dX12_leastIn_48 (by decide) ?_
            exact kJ23 _ ⟨(fun q => absurd q c25), fun _ => rfl⟩
theorem qX12_leastIn (G : GG) (l : Launch) (o : Int) (a1 : Int) (h : HP) (P : Int → HP → Prop) (hw : wX12_leastIn o a1 h P) : CnI l G yX12_leastIn cX12_leastIn 4 (some .int) 36 [(22, o), (0, a1)] h P := by
  refine CnI.of (lo := [(22, o), (0, a1), (1, 0), (1, 0)]) (by decide) rfl rfl rfl ?_
  intro p e s m args below meth c hc hr
  have hc : VC G p (rmD 36 0) s m args meth c RX12 cX12_leastIn 4 36 := hc
  refine V.iconst hc dX12_leastIn_0 ?_
  refine V.istore_n hc dX12_leastIn_1 rfl rfl (lo' := [(22, o), (0, a1), (0, (-1)), (1, 0)]) rfl ?_
  refine V.iconst hc dX12_leastIn_2 ?_
  refine V.istore_n hc dX12_leastIn_3 rfl rfl (lo' := [(22, o), (0, a1), (0, (-1)), (0, 0)]) rfl ?_
  obtain ⟨f31, hw⟩ := hw
  refine tX12_leastIn_4 hc hr ?_ f31 _ _ _ hw
  · intro l32 h33 hw
    refine V.iload_n hc dX12_leastIn_93 rfl rfl ?_
    exact V.iret hc hr dX12_leastIn_94 hw
theorem tX12_byShare_6 {G : GG} {p : Program} {l : Launch} {e : Jvm.Env} {s : State} {m : MethodId} {args : Array Value} {below : List Frame} {meth : Method} {c : Code} {P : Int → HP → Prop} (hc : VC G p (rmD 37 0) s m args meth c RX12 cX12_byShare 2 37) (hr : meth.sig.returnType = some .int) {o : Int} {K28 : Int → HP → Prop} (hK28 : ∀ (x1 : Int) (h : HP), K28 x1 h → V G p l e (rmD 37 0) s m args below meth c (MQ below (QI G P) args s 0 0 (va_Aof G)) 2 28 [(1, 0), (0, x1)] [] h 0) : ∀ (f : Nat) (l1 : Int) (h : HP), wX12_byShare_6 o K28 f l1 h → V G p l e (rmD 37 0) s m args below meth c (MQ below (QI G P) args s 0 0 (va_Aof G)) 2 6 [(22, o), (0, l1)] [] h 0 := by
  intro f
  induction f with
  | zero =>
    intro l1 h hw
    exact hw.elim
  | succ f ih =>
    intro l1 h hw
    refine V.iload_n hc dX12_byShare_6 rfl rfl ?_
    refine V.iconst hc dX12_byShare_7 ?_
    obtain ⟨g3, hw⟩ := hw
    refine V.icmp_eq hc (tgt := 28) dX12_byShare_8 (by decide) g3 (by omega) (fun c4 => ?_) (fun c4 => ?_)
    · replace hw := hw.1 c4
      refine V.drop (lo' := [(1, 0), (0, l1)]) ⟨Or.inl rfl, Or.inr rfl, trivial⟩ ?_
      exact hK28 _ _ hw
    · replace hw := hw.2 c4
      refine V.aload_n (t := 12) hc dX12_byShare_11 rfl rfl ?_
      refine V.iload_n hc dX12_byShare_12 rfl rfl ?_
      refine V.callVI hc (qX12_isLeaf G l _ _ _ _ hw) mo_X12_isLeaf ml_X12_305 (by rfl) rfl rfl (as := [(0, l1)]) rfl rfl rfl rfl rfl ⟨Nat.zero_le _, Nat.zero_le _⟩ dX12_byShare_13 (fun x6 h5 hw => ?_)
      obtain ⟨g7, hw⟩ := hw
      refine V.if_ne hc (tgt := 28) dX12_byShare_16 (by decide) g7 (fun c8 => ?_) (fun c8 => ?_)
      · replace hw := hw.1 c8
        refine V.drop (lo' := [(1, 0), (0, l1)]) ⟨Or.inl rfl, Or.inr rfl, trivial⟩ ?_
        exact hK28 _ _ hw
      · replace hw := hw.2 c8
        refine V.aload_n (t := 12) hc dX12_byShare_19 rfl rfl ?_
        refine V.iload_n hc dX12_byShare_20 rfl rfl ?_
        refine V.callVI hc (qX12_leastIn G l _ _ _ _ hw) mo_X12_leastIn ml_X12_302 (by rfl) rfl rfl (as := [(0, l1)]) rfl rfl rfl rfl rfl ⟨Nat.zero_le _, Nat.zero_le _⟩ dX12_byShare_21 (fun x10 h9 hw => ?_)
        refine V.istore_n hc dX12_byShare_24 rfl rfl (lo' := [(22, o), (0, x10)]) rfl ?_
        refine V.goto hc (tgt := 6) dX12_byShare_25 (by decide) ?_
        exact ih _ _ hw
theorem qX12_byShare (G : GG) (l : Launch) (o : Int) (h : HP) (P : Int → HP → Prop) (hw : wX12_byShare o h P) : CnI l G yX12_byShare cX12_byShare 2 (some .int) 37 [(22, o)] h P := by
  refine CnI.of (lo := [(22, o), (1, 0)]) (by decide) rfl rfl rfl ?_
  intro p e s m args below meth c hc hr
  have hc : VC G p (rmD 37 0) s m args meth c RX12 cX12_byShare 2 37 := hc
  refine V.aload_n (t := 12) hc dX12_byShare_0 rfl rfl ?_
  refine V.iconst hc dX12_byShare_1 ?_
  refine V.callVI hc (qX12_leastIn G l _ _ _ _ hw) mo_X12_leastIn ml_X12_302 (by rfl) rfl rfl (as := [(0, (-1))]) rfl rfl rfl rfl rfl ⟨Nat.zero_le _, Nat.zero_le _⟩ dX12_byShare_2 (fun x2 h1 hw => ?_)
  refine V.istore_n hc dX12_byShare_5 rfl rfl (lo' := [(22, o), (0, x2)]) rfl ?_
  obtain ⟨f11, hw⟩ := hw
  refine tX12_byShare_6 hc hr ?_ f11 _ _ hw
  · intro l12 h13 hw
    refine V.iload_n hc dX12_byShare_28 rfl rfl ?_
    exact V.iret hc hr dX12_byShare_29 hw
theorem tX12_choose_61 {G : GG} {p : Program} {l : Launch} {e : Jvm.Env} {s : State} {m : MethodId} {args : Array Value} {below : List Frame} {meth : Method} {c : Code} {P : HP → Prop} (hc : VC G p (rmD 38 0) s m args meth c RX12 cX12_choose 4 38) (hr : meth.sig.returnType = none) {o : Int} {l1 : Int} {l2 : Int} {K104 : HP → Prop} (hK104 : ∀  (h : HP), K104  h → V G p l e (rmD 38 0) s m args below meth c (MQ below (QV G P) args s 0 0 (va_Aof G)) 4 104 [(22, o), (0, l1), (0, l2), (1, 0)] [] h 0) : ∀ (f : Nat) (l3 : Int) (h : HP), wX12_choose_61 o l1 l2 K104 f l3 h → V G p l e (rmD 38 0) s m args below meth c (MQ below (QV G P) args s 0 0 (va_Aof G)) 4 61 [(22, o), (0, l1), (0, l2), (0, l3)] [] h 0 := by
  intro f
  induction f with
  | zero =>
    intro l3 h hw
    exact hw.elim
  | succ f ih =>
    intro l3 h hw
    refine V.iload_n hc dX12_choose_61 rfl rfl ?_
    refine V.aload_n (t := 12) hc dX12_choose_62 rfl rfl ?_
    refine V.gR hc gR_X12_43 (i' := o) rfl dX12_choose_63 ?_
    refine V.iload_n hc dX12_choose_66 rfl rfl ?_
    refine V.bipush hc dX12_choose_67 (by decide) ?_
    refine V.iadd hc dX12_choose_69 ?_
    obtain ⟨g15, hw⟩ := hw
    refine V.ald hc ak_56 g15 dX12_choose_70 ?_
    obtain ⟨g16, hw⟩ := hw
    obtain ⟨g17, hw⟩ := hw
    refine V.icmp_ge hc (tgt := 104) dX12_choose_71 (by decide) g16 g17 (fun c18 => ?_) (fun c18 => ?_)
    · replace hw := hw.1 c18
      refine V.drop (lo' := [(22, o), (0, l1), (0, l2), (1, 0)]) ⟨Or.inr rfl, Or.inr rfl, Or.inr rfl, Or.inl rfl, trivial⟩ ?_
      exact hK104 _ hw
    · replace hw := hw.2 c18
      refine V.aload_n (t := 12) hc dX12_choose_74 rfl rfl ?_
      refine V.gR hc gR_X12_43 (i' := o) rfl dX12_choose_75 ?_
      refine V.iload_n hc dX12_choose_78 rfl rfl ?_
      refine V.bipush hc dX12_choose_79 (by decide) ?_
      refine V.iadd hc dX12_choose_81 ?_
      refine V.iload_n hc dX12_choose_82 rfl rfl ?_
      refine V.iadd hc dX12_choose_83 ?_
      refine V.iconst hc dX12_choose_84 ?_
      refine V.isub hc dX12_choose_85 ?_
      refine V.aload_n (t := 12) hc dX12_choose_86 rfl rfl ?_
      refine V.gR hc gR_X12_43 (i' := o) rfl dX12_choose_87 ?_
      refine V.iload_n hc dX12_choose_90 rfl rfl ?_
      refine V.bipush hc dX12_choose_91 (by decide) ?_
      refine V.iadd hc dX12_choose_93 ?_
      refine V.iload_n hc dX12_choose_94 rfl rfl ?_
      refine V.iadd hc dX12_choose_95 ?_
      obtain ⟨g19, hw⟩ := hw
      refine V.ald hc ak_56 g19 dX12_choose_96 ?_
      obtain ⟨g21, hw⟩ := hw
      refine V.ast hc ak_56 g21 dX12_choose_97 (fun h20 e => ?_)
      replace hw := hw h20 e
      clear e
      refine V.iinc hc dX12_choose_98 rfl rfl (lo' := [(22, o), (0, l1), (0, l2), (0, l3 + 1)]) rfl ?_
      refine V.goto hc (tgt := 61) dX12_choose_101 (by decide) ?_
      exact ih _ _ hw
theorem tX12_choose_166 {G : GG} {p : Program} {l : Launch} {e : Jvm.Env} {s : State} {m : MethodId} {args : Array Value} {below : List Frame} {meth : Method} {c : Code} {P : HP → Prop} (hc : VC G p (rmD 38 0) s m args meth c RX12 cX12_choose 4 38) (hr : meth.sig.returnType = none) {o : Int} {l1 : Int} {K225 : HP → Prop} (hK225 : ∀  (h : HP), K225  h → V G p l e (rmD 38 0) s m args below meth c (MQ below (QV G P) args s 0 0 (va_Aof G)) 4 225 [(22, o), (0, l1), (1, 0), (1, 0)] [] h 0) : ∀ (f : Nat) (l3 : Int) (h : HP), wX12_choose_166 o l1 K225 f l3 h → V G p l e (rmD 38 0) s m args below meth c (MQ below (QV G P) args s 0 0 (va_Aof G)) 4 166 [(22, o), (0, l1), (1, 0), (0, l3)] [] h 0 := by
  intro f
  induction f with
  | zero =>
    intro l3 h hw
    exact hw.elim
  | succ f ih =>
    intro l3 h hw
    refine V.iload_n hc dX12_choose_166 rfl rfl ?_
    refine V.iconst hc dX12_choose_167 ?_
    obtain ⟨g36, hw⟩ := hw
    refine V.icmp_eq hc (tgt := 225) dX12_choose_168 (by decide) g36 (by omega) (fun c37 => ?_) (fun c37 => ?_)
    · replace hw := hw.1 c37
      refine V.drop (lo' := [(22, o), (0, l1), (1, 0), (1, 0)]) ⟨Or.inr rfl, Or.inr rfl, Or.inr rfl, Or.inl rfl, trivial⟩ ?_
      exact hK225 _ hw
    · replace hw := hw.2 c37
      refine V.aload_n (t := 12) hc dX12_choose_171 rfl rfl ?_
      refine V.gR hc gR_X12_43 (i' := o) rfl dX12_choose_172 ?_
      refine V.sipush hc dX12_choose_175 (by decide) ?_
      refine V.iload_n hc dX12_choose_178 rfl rfl ?_
      refine V.imul hc dX12_choose_179 ?_
      refine V.bipush hc dX12_choose_180 (by decide) ?_
      refine V.iadd hc dX12_choose_182 ?_
      refine V.dup2 hc dX12_choose_183 (by simp) (by simp) ?_
      obtain ⟨g38, hw⟩ := hw
      refine V.ald hc ak_56 g38 dX12_choose_184 ?_
      refine V.aload_n (t := 12) hc dX12_choose_185 rfl rfl ?_
      refine V.gI hc gI_X12_320 rfl dX12_choose_186 ?_
      refine V.iadd hc dX12_choose_189 ?_
      obtain ⟨g40, hw⟩ := hw
      refine V.ast hc ak_56 g40 dX12_choose_190 (fun h39 e => ?_)
      replace hw := hw h39 e
      clear e
      refine V.aload_n (t := 12) hc dX12_choose_191 rfl rfl ?_
      refine V.iload_n hc dX12_choose_192 rfl rfl ?_
      refine V.aload_n (t := 12) hc dX12_choose_193 rfl rfl ?_
      refine V.iload_n hc dX12_choose_194 rfl rfl ?_
      refine V.iconst hc dX12_choose_195 ?_
      refine V.aload_n (t := 12) hc dX12_choose_196 rfl rfl ?_
      refine V.gR hc gR_X12_43 (i' := o) rfl dX12_choose_197 ?_
      refine V.sipush hc dX12_choose_200 (by decide) ?_
      refine V.iload_n hc dX12_choose_203 rfl rfl ?_
      refine V.imul hc dX12_choose_204 ?_
      refine V.bipush hc dX12_choose_205 (by decide) ?_
      refine V.iadd hc dX12_choose_207 ?_
      obtain ⟨g41, hw⟩ := hw
      refine V.ald hc ak_56 g41 dX12_choose_208 ?_
      refine V.callVI hc (qX12_reachBy G l _ _ _ _ _ _ hw) mo_X12_reachBy ml_X12_289 (by rfl) rfl rfl (as := [(0, l3), (0, 1), (0, h39 56 o ((257 * l3) + 12))]) rfl rfl rfl rfl rfl ⟨Nat.zero_le _, Nat.zero_le _⟩ dX12_choose_209 (fun x43 h42 hw => ?_)
      refine V.callVV hc (qX12_putVirtual G l _ _ _ _ _ hw) mo_X12_putVirtual ml_X12_275 (by rfl) rfl rfl (as := [(0, l3), (0, x43)]) rfl rfl rfl rfl rfl ⟨Nat.zero_le _, Nat.zero_le _⟩ dX12_choose_212 (fun h44 hw => ?_)
      refine V.aload_n (t := 12) hc dX12_choose_215 rfl rfl ?_
      refine V.gR hc gR_X12_25 (i' := o) rfl dX12_choose_216 ?_
      refine V.iload_n hc dX12_choose_219 rfl rfl ?_
      obtain ⟨g45, hw⟩ := hw
      refine V.ald hc ak_50 g45 dX12_choose_220 ?_
      refine V.istore_n hc dX12_choose_221 rfl rfl (lo' := [(22, o), (0, l1), (1, 0), (0, h44 50 o l3)]) rfl ?_
      refine V.goto hc (tgt := 166) dX12_choose_222 (by decide) ?_
      exact ih _ _ hw
theorem tX12_choose_29 {G : GG} {p : Program} {l : Launch} {e : Jvm.Env} {s : State} {m : MethodId} {args : Array Value} {below : List Frame} {meth : Method} {c : Code} {P : HP → Prop} (hc : VC G p (rmD 38 0) s m args meth c RX12 cX12_choose 4 38) (hr : meth.sig.returnType = none) {o : Int} {l1 : Int} {h : HP} (hw : wX12_choose_29 o l1 P h) : V G p l e (rmD 38 0) s m args below meth c (MQ below (QV G P) args s 0 0 (va_Aof G)) 4 29 [(22, o), (0, l1), (1, 0), (1, 0)] [] h 0 := by
  refine V.aload_n (t := 12) hc dX12_choose_29 rfl rfl ?_
  refine V.iload_n hc dX12_choose_30 rfl rfl ?_
  refine V.pI hc pI_X12_317 rfl dX12_choose_31 (fun h10 e => ?_)
  replace hw := hw h10 e
  clear e
  refine V.iload_n hc dX12_choose_34 rfl rfl ?_
  refine V.iconst hc dX12_choose_35 ?_
  obtain ⟨g11, hw⟩ := hw
  refine V.icmp_ne hc (tgt := 40) dX12_choose_36 (by decide) g11 (by omega) (fun c12 => ?_) (fun c12 => ?_)
  · replace hw := hw.1 c12
    refine V.sipush hc dX12_choose_40 (by decide) ?_
    refine V.iload_n hc dX12_choose_43 rfl rfl ?_
    refine V.imul hc dX12_choose_44 ?_
    refine V.istore_n hc dX12_choose_45 rfl rfl (lo' := [(22, o), (0, l1), (0, 257 * l1), (1, 0)]) rfl ?_
    refine V.aload_n (t := 12) hc dX12_choose_46 rfl rfl ?_
    refine V.aload_n (t := 12) hc dX12_choose_47 rfl rfl ?_
    refine V.gR hc gR_X12_43 (i' := o) rfl dX12_choose_48 ?_
    refine V.iload_n hc dX12_choose_51 rfl rfl ?_
    refine V.bipush hc dX12_choose_52 (by decide) ?_
    refine V.iadd hc dX12_choose_54 ?_
    obtain ⟨g13, hw⟩ := hw
    refine V.ald hc ak_56 g13 dX12_choose_55 ?_
    refine V.pI hc pI_X12_320 rfl dX12_choose_56 (fun h14 e => ?_)
    replace hw := hw h14 e
    clear e
    refine V.iconst hc dX12_choose_59 ?_
    refine V.istore_n hc dX12_choose_60 rfl rfl (lo' := [(22, o), (0, l1), (0, 257 * l1), (0, 1)]) rfl ?_
    obtain ⟨f22, hw⟩ := hw
    refine tX12_choose_61 hc hr ?_ f22 _ _ hw
    · intro h23 hw
      refine V.aload_n (t := 12) hc dX12_choose_104 rfl rfl ?_
      refine V.gR hc gR_X12_43 (i' := o) rfl dX12_choose_105 ?_
      refine V.iload_n hc dX12_choose_108 rfl rfl ?_
      refine V.bipush hc dX12_choose_109 (by decide) ?_
      refine V.iadd hc dX12_choose_111 ?_
      refine V.dup2 hc dX12_choose_112 (by simp) (by simp) ?_
      obtain ⟨g24, hw⟩ := hw
      refine V.ald hc ak_56 g24 dX12_choose_113 ?_
      refine V.iconst hc dX12_choose_114 ?_
      refine V.isub hc dX12_choose_115 ?_
      obtain ⟨g26, hw⟩ := hw
      refine V.ast hc ak_56 g26 dX12_choose_116 (fun h25 e => ?_)
      replace hw := hw h25 e
      clear e
      refine V.aload_n (t := 12) hc dX12_choose_117 rfl rfl ?_
      refine V.gR hc gR_X12_43 (i' := o) rfl dX12_choose_118 ?_
      refine V.iload_n hc dX12_choose_121 rfl rfl ?_
      refine V.bipush hc dX12_choose_122 (by decide) ?_
      refine V.iadd hc dX12_choose_124 ?_
      refine V.aload_n (t := 12) hc dX12_choose_125 rfl rfl ?_
      refine V.gR hc gR_X12_43 (i' := o) rfl dX12_choose_126 ?_
      refine V.iload_n hc dX12_choose_129 rfl rfl ?_
      refine V.bipush hc dX12_choose_130 (by decide) ?_
      refine V.iadd hc dX12_choose_132 ?_
      obtain ⟨g27, hw⟩ := hw
      refine V.ald hc ak_56 g27 dX12_choose_133 ?_
      refine V.iadd hc dX12_choose_134 ?_
      refine V.iconst hc dX12_choose_135 ?_
      obtain ⟨g29, hw⟩ := hw
      refine V.ast hc ak_56 g29 dX12_choose_136 (fun h28 e => ?_)
      replace hw := hw h28 e
      clear e
      refine V.aload_n (t := 12) hc dX12_choose_137 rfl rfl ?_
      refine V.gR hc gR_X12_43 (i' := o) rfl dX12_choose_138 ?_
      refine V.iload_n hc dX12_choose_141 rfl rfl ?_
      refine V.bipush hc dX12_choose_142 (by decide) ?_
      refine V.iadd hc dX12_choose_144 ?_
      refine V.dup2 hc dX12_choose_145 (by simp) (by simp) ?_
      obtain ⟨g30, hw⟩ := hw
      refine V.ald hc ak_56 g30 dX12_choose_146 ?_
      refine V.aload_n (t := 12) hc dX12_choose_147 rfl rfl ?_
      refine V.gI hc gI_X12_311 rfl dX12_choose_148 ?_
      obtain ⟨q33, hw⟩ := hw
      have kJ57 : ∀ t32 : Int, ((h28 12 o 28 = 0 → t32 = 0) ∧ (¬ h28 12 o 28 = 0 → t32 = h28 12 o 27)) → V G p l e (rmD 38 0) s m args below meth c (MQ below (QV G P) args s 0 0 (va_Aof G)) 4 162 [(22, o), (0, l1), (1, 0), (1, 0)] [(0, t32), (0, h28 56 o ((257 * l1) + 13)), (0, (257 * l1) + 13), (66, o)] h28 0 := by
        intro t32 he
        replace hw := hw t32 he
        clear he
        refine V.iadd hc dX12_choose_162 ?_
        obtain ⟨g35, hw⟩ := hw
        refine V.ast hc ak_56 g35 dX12_choose_163 (fun h34 e => ?_)
        replace hw := hw h34 e
        clear e
        refine V.iload_n hc dX12_choose_164 rfl rfl ?_
        refine V.istore_n hc dX12_choose_165 rfl rfl (lo' := [(22, o), (0, l1), (1, 0), (0, l1)]) rfl ?_
        obtain ⟨f46, hw⟩ := hw
        refine tX12_choose_166 hc hr ?_ f46 _ _ hw
        · intro h47 hw
          refine V.aload_n (t := 12) hc dX12_choose_225 rfl rfl ?_
          refine V.gR hc gR_X12_43 (i' := o) rfl dX12_choose_226 ?_
          refine V.sipush hc dX12_choose_229 (by decide) ?_
          refine V.aload_n (t := 12) hc dX12_choose_232 rfl rfl ?_
          refine V.gI hc gI_X12_320 rfl dX12_choose_233 ?_
          refine V.ast hc ak_56 (by omega) dX12_choose_236 (fun h48 e => ?_)
          replace hw := hw h48 e
          clear e
          refine V.aload_n (t := 12) hc dX12_choose_237 rfl rfl ?_
          refine V.gR hc gR_X12_43 (i' := o) rfl dX12_choose_238 ?_
          refine V.sipush hc dX12_choose_241 (by decide) ?_
          refine V.dup2 hc dX12_choose_244 (by simp) (by simp) ?_
          refine V.ald hc ak_56 (by omega) dX12_choose_245 ?_
          refine V.iconst hc dX12_choose_246 ?_
          refine V.iadd hc dX12_choose_247 ?_
          refine V.ast hc ak_56 (by omega) dX12_choose_248 (fun h49 e => ?_)
          replace hw := hw h49 e
          clear e
          refine V.aload_n (t := 12) hc dX12_choose_249 rfl rfl ?_
          refine V.gR hc gR_X12_43 (i' := o) rfl dX12_choose_250 ?_
          refine V.sipush hc dX12_choose_253 (by decide) ?_
          refine V.dup2 hc dX12_choose_256 (by simp) (by simp) ?_
          refine V.ald hc ak_56 (by omega) dX12_choose_257 ?_
          refine V.aload_n (t := 12) hc dX12_choose_258 rfl rfl ?_
          refine V.gI hc gI_X12_311 rfl dX12_choose_259 ?_
          obtain ⟨q52, hw⟩ := hw
          have kJ55 : ∀ t51 : Int, ((h49 12 o 28 = 0 → t51 = 0) ∧ (¬ h49 12 o 28 = 0 → t51 = 1)) → V G p l e (rmD 38 0) s m args below meth c (MQ below (QV G P) args s 0 0 (va_Aof G)) 4 270 [(22, o), (0, l1), (1, 0), (1, 0)] [(0, t51), (0, h49 56 o 3087), (0, 3087), (66, o)] h49 0 := by
            intro t51 he
            replace hw := hw t51 he
            clear he
            refine V.iadd hc dX12_choose_270 ?_
            refine V.ast hc ak_56 (by omega) dX12_choose_271 (fun h53 e => ?_)
            replace hw := hw h53 e
            clear e
            refine V.aload_n (t := 12) hc dX12_choose_272 rfl rfl ?_
            refine V.gR hc gR_X12_43 (i' := o) rfl dX12_choose_273 ?_
            refine V.sipush hc dX12_choose_276 (by decide) ?_
            refine V.iload_n hc dX12_choose_279 rfl rfl ?_
            refine V.ast hc ak_56 (by omega) dX12_choose_280 (fun h54 e => ?_)
            replace hw := hw h54 e
            clear e
            exact V.vret hc hr dX12_choose_281 hw
          have g50 := q52
          refine V.if_eq hc (tgt := 269) dX12_choose_262 (by decide) g50 (fun c56 => ?_) (fun c56 => ?_)
          · refine V.iconst hc dX12_choose_269 ?_
            exact kJ55 _ ⟨fun _ => rfl, (fun q => absurd c56 q)⟩
          · refine V.iconst hc dX12_choose_265 ?_
            refine V.goto hc (tgt := 270) dX12_choose_266 (by decide) ?_
            exact kJ55 _ ⟨(fun q => absurd q c56), fun _ => rfl⟩
      have g31 := q33
      refine V.if_eq hc (tgt := 161) dX12_choose_151 (by decide) g31 (fun c58 => ?_) (fun c58 => ?_)
      · refine V.iconst hc dX12_choose_161 ?_
        refine V.drop (lo' := [(22, o), (0, l1), (1, 0), (1, 0)]) ⟨Or.inr rfl, Or.inr rfl, Or.inl rfl, Or.inr rfl, trivial⟩ ?_
        exact kJ57 _ ⟨fun _ => rfl, (fun q => absurd c58 q)⟩
      · refine V.aload_n (t := 12) hc dX12_choose_154 rfl rfl ?_
        refine V.gI hc gI_X12_320 rfl dX12_choose_155 ?_
        refine V.goto hc (tgt := 162) dX12_choose_158 (by decide) ?_
        refine V.drop (lo' := [(22, o), (0, l1), (1, 0), (1, 0)]) ⟨Or.inr rfl, Or.inr rfl, Or.inl rfl, Or.inr rfl, trivial⟩ ?_
        exact kJ57 _ ⟨(fun q => absurd q c58), fun _ => rfl⟩
  · replace hw := hw.2 c12
    exact V.vret hc hr dX12_choose_39 hw
theorem qX12_choose (G : GG) (l : Launch) (o : Int) (h : HP) (P : HP → Prop) (hw : wX12_choose o h P) : CnV l G yX12_choose cX12_choose 4 38 [(22, o)] h P := by
  refine CnV.of (lo := [(22, o), (1, 0), (1, 0), (1, 0)]) (by decide) rfl rfl rfl ?_
  intro p e s m args below meth c hc hr
  have hc : VC G p (rmD 38 0) s m args meth c RX12 cX12_choose 4 38 := hc
  refine V.aload_n (t := 12) hc dX12_choose_0 rfl rfl ?_
  refine V.callVI hc (qX12_byGrant G l _ _ _ hw) mo_X12_byGrant ml_X12_308 (by rfl) rfl rfl (as := []) rfl rfl rfl rfl rfl ⟨Nat.zero_le _, Nat.zero_le _⟩ dX12_choose_1 (fun x2 h1 hw => ?_)
  refine V.istore_n hc dX12_choose_4 rfl rfl (lo' := [(22, o), (0, x2), (1, 0), (1, 0)]) rfl ?_
  refine V.aload_n (t := 12) hc dX12_choose_5 rfl rfl ?_
  refine V.iload_n hc dX12_choose_6 rfl rfl ?_
  refine V.iconst hc dX12_choose_7 ?_
  obtain ⟨q5, hw⟩ := hw
  have kJ61 : ∀ t4 : Int, ((x2 = (-1) → t4 = 0) ∧ (¬ x2 = (-1) → t4 = 1)) → V G p l e (rmD 38 0) s m args below meth c (MQ below (QV G P) args s 0 0 (va_Aof G)) 4 16 [(22, o), (0, x2), (1, 0), (1, 0)] [(0, t4), (22, o)] h1 0 := by
    intro t4 he
    replace hw := hw t4 he
    clear he
    obtain ⟨g7, hw⟩ := hw
    refine V.pZ hc pI_X12_311 rfl g7 dX12_choose_16 (fun h6 e => ?_)
    replace hw := hw h6 e
    clear e
    refine V.iload_n hc dX12_choose_19 rfl rfl ?_
    refine V.iconst hc dX12_choose_20 ?_
    obtain ⟨g8, hw⟩ := hw
    refine V.icmp_ne hc (tgt := 29) dX12_choose_21 (by decide) g8 (by omega) (fun c9 => ?_) (fun c9 => ?_)
    · replace hw := hw.1 c9
      exact tX12_choose_29 hc hr  hw
    · replace hw := hw.2 c9
      refine V.aload_n (t := 12) hc dX12_choose_24 rfl rfl ?_
      refine V.callVI hc (qX12_byShare G l _ _ _ hw) mo_X12_byShare ml_X12_314 (by rfl) rfl rfl (as := []) rfl rfl rfl rfl rfl ⟨Nat.zero_le _, Nat.zero_le _⟩ dX12_choose_25 (fun x60 h59 hw => ?_)
      refine V.istore_n hc dX12_choose_28 rfl rfl (lo' := [(22, o), (0, x60), (1, 0), (1, 0)]) rfl ?_
      exact tX12_choose_29 hc hr  hw
  have g3 := q5
  refine V.icmp_eq hc (tgt := 15) dX12_choose_8 (by decide) g3 (by omega) (fun c62 => ?_) (fun c62 => ?_)
  · refine V.iconst hc dX12_choose_15 ?_
    exact kJ61 _ ⟨fun _ => rfl, (fun q => absurd c62 q)⟩
  · refine V.iconst hc dX12_choose_11 ?_
    refine V.goto hc (tgt := 16) dX12_choose_12 (by decide) ?_
    exact kJ61 _ ⟨(fun q => absurd q c62), fun _ => rfl⟩
theorem tX12_tells_89 {G : GG} {p : Program} {l : Launch} {e : Jvm.Env} {s : State} {m : MethodId} {args : Array Value} {below : List Frame} {meth : Method} {c : Code} {P : HP → Prop} (hc : VC G p (rmD 25 0) s m args meth c RX12 cX12_tells 4 25) (hr : meth.sig.returnType = none) {o : Int} {a1 : Int} {l2 : Int} {h : HP} (hw : wX12_tells_89 o a1 l2 P h) : V G p l e (rmD 25 0) s m args below meth c (MQ below (QV G P) args s 0 0 (va_Aof G)) 4 89 [(22, o), (0, a1), (0, l2), (1, 0)] [] h 0 := by
  refine V.iload_n hc dX12_tells_89 rfl rfl ?_
  obtain ⟨g13, hw⟩ := hw
  refine V.if_ne hc (tgt := 94) dX12_tells_90 (by decide) g13 (fun c14 => ?_) (fun c14 => ?_)
  · replace hw := hw.1 c14
    refine V.aload_n (t := 12) hc dX12_tells_94 rfl rfl ?_
    refine V.aload_n (t := 12) hc dX12_tells_95 rfl rfl ?_
    refine V.gR hc gR_X12_28 (i' := o) rfl dX12_tells_96 ?_
    refine V.iload_n hc dX12_tells_99 rfl rfl ?_
    obtain ⟨g15, hw⟩ := hw
    refine V.ald hc ak_51 g15 dX12_tells_100 ?_
    refine V.aload_n (t := 12) hc dX12_tells_101 rfl rfl ?_
    refine V.gR hc gR_X12_43 (i' := o) rfl dX12_tells_102 ?_
    refine V.sipush hc dX12_tells_105 (by decide) ?_
    refine V.iload_n hc dX12_tells_108 rfl rfl ?_
    refine V.iadd hc dX12_tells_109 ?_
    obtain ⟨g16, hw⟩ := hw
    refine V.ald hc ak_56 g16 dX12_tells_110 ?_
    refine V.callVI hc (qX12_comes G l _ _ _ _ _ hw) mo_X12_comes ml_X12_329 (by rfl) rfl rfl (as := [(0, h 51 o a1), (0, h 56 o (3091 + a1))]) rfl rfl rfl rfl rfl ⟨Nat.zero_le _, Nat.zero_le _⟩ dX12_tells_111 (fun x18 h17 hw => ?_)
    refine V.istore_n hc dX12_tells_114 rfl rfl (lo' := [(22, o), (0, a1), (0, l2), (0, x18)]) rfl ?_
    refine V.iload_n hc dX12_tells_115 rfl rfl ?_
    obtain ⟨g19, hw⟩ := hw
    refine V.if_eq hc (tgt := 165) dX12_tells_116 (by decide) g19 (fun c20 => ?_) (fun c20 => ?_)
    · replace hw := hw.1 c20
      exact V.vret hc hr dX12_tells_165 hw
    · replace hw := hw.2 c20
      refine V.aload_n (t := 12) hc dX12_tells_119 rfl rfl ?_
      refine V.gR hc gR_X12_28 (i' := o) rfl dX12_tells_120 ?_
      refine V.iload_n hc dX12_tells_123 rfl rfl ?_
      obtain ⟨g21, hw⟩ := hw
      refine V.ald hc ak_51 g21 dX12_tells_124 ?_
      refine V.aload_n (t := 12) hc dX12_tells_125 rfl rfl ?_
      refine V.gI hc gI_X12_66 rfl dX12_tells_126 ?_
      obtain ⟨g22, hw⟩ := hw
      obtain ⟨g23, hw⟩ := hw
      refine V.icmp_ne hc (tgt := 165) dX12_tells_129 (by decide) g22 g23 (fun c24 => ?_) (fun c24 => ?_)
      · replace hw := hw.1 c24
        exact V.vret hc hr dX12_tells_165 hw
      · replace hw := hw.2 c24
        refine V.aload_n (t := 12) hc dX12_tells_132 rfl rfl ?_
        refine V.gR hc gR_X12_69 (i' := o) rfl dX12_tells_133 ?_
        refine V.aload_n (t := 12) hc dX12_tells_136 rfl rfl ?_
        refine V.gI hc gI_X12_332 rfl dX12_tells_137 ?_
        refine V.aload_n (t := 12) hc dX12_tells_140 rfl rfl ?_
        refine V.gR hc gR_X12_69 (i' := o) rfl dX12_tells_141 ?_
        refine V.aln hc ak_61 dX12_tells_144 ?_
        obtain ⟨g25, hw⟩ := hw
        refine V.irem hc g25 (by omega) dX12_tells_145 ?_
        refine V.aload_n (t := 12) hc dX12_tells_146 rfl rfl ?_
        refine V.gR hc gR_X12_43 (i' := o) rfl dX12_tells_147 ?_
        refine V.sipush hc dX12_tells_150 (by decide) ?_
        refine V.ald hc ak_56 (by omega) dX12_tells_153 ?_
        obtain ⟨g27, hw⟩ := hw
        refine V.ast hc ak_61 g27 dX12_tells_154 (fun h26 e => ?_)
        replace hw := hw h26 e
        clear e
        refine V.aload_n (t := 12) hc dX12_tells_155 rfl rfl ?_
        refine V.dup hc dX12_tells_156 (by simp) ?_
        refine V.gI hc gI_X12_332 rfl dX12_tells_157 ?_
        refine V.iconst hc dX12_tells_160 ?_
        refine V.iadd hc dX12_tells_161 ?_
        refine V.pI hc pI_X12_332 rfl dX12_tells_162 (fun h28 e => ?_)
        replace hw := hw h28 e
        clear e
        exact V.vret hc hr dX12_tells_165 hw
  · replace hw := hw.2 c14
    exact V.vret hc hr dX12_tells_93 hw
theorem qX12_tells (G : GG) (l : Launch) (o : Int) (a1 : Int) (h : HP) (P : HP → Prop) (hw : wX12_tells o a1 h P) : CnV l G yX12_tells cX12_tells 4 25 [(22, o), (0, a1)] h P := by
  refine CnV.of (lo := [(22, o), (0, a1), (1, 0), (1, 0)]) (by decide) rfl rfl rfl ?_
  intro p e s m args below meth c hc hr
  have hc : VC G p (rmD 25 0) s m args meth c RX12 cX12_tells 4 25 := hc
  refine V.aload_n (t := 12) hc dX12_tells_0 rfl rfl ?_
  refine V.gR hc gR_X12_43 (i' := o) rfl dX12_tells_1 ?_
  refine V.sipush hc dX12_tells_4 (by decide) ?_
  refine V.ald hc ak_56 (by omega) dX12_tells_7 ?_
  refine V.iload_n hc dX12_tells_8 rfl rfl ?_
  refine V.ishr hc dX12_tells_9 ?_
  refine V.iconst hc dX12_tells_10 ?_
  refine V.iand hc dX12_tells_11 ?_
  refine V.iconst hc dX12_tells_12 ?_
  obtain ⟨g1, hw⟩ := hw
  refine V.icmp_eq hc (tgt := 40) dX12_tells_13 (by decide) g1 (by omega) (fun c2 => ?_) (fun c2 => ?_)
  · replace hw := hw.1 c2
    exact V.vret hc hr dX12_tells_40 hw
  · replace hw := hw.2 c2
    refine V.aload_n (t := 12) hc dX12_tells_16 rfl rfl ?_
    refine V.gR hc gR_X12_43 (i' := o) rfl dX12_tells_17 ?_
    refine V.sipush hc dX12_tells_20 (by decide) ?_
    refine V.ald hc ak_56 (by omega) dX12_tells_23 ?_
    refine V.aload_n (t := 12) hc dX12_tells_24 rfl rfl ?_
    refine V.gR hc gR_X12_31 (i' := o) rfl dX12_tells_25 ?_
    refine V.iload_n hc dX12_tells_28 rfl rfl ?_
    obtain ⟨g3, hw⟩ := hw
    refine V.ald hc ak_52 g3 dX12_tells_29 ?_
    obtain ⟨g4, hw⟩ := hw
    obtain ⟨g5, hw⟩ := hw
    refine V.irem hc g4 g5 dX12_tells_30 ?_
    refine V.aload_n (t := 12) hc dX12_tells_31 rfl rfl ?_
    refine V.gR hc gR_X12_34 (i' := o) rfl dX12_tells_32 ?_
    refine V.iload_n hc dX12_tells_35 rfl rfl ?_
    obtain ⟨g6, hw⟩ := hw
    refine V.ald hc ak_53 g6 dX12_tells_36 ?_
    obtain ⟨g7, hw⟩ := hw
    obtain ⟨g8, hw⟩ := hw
    refine V.icmp_eq hc (tgt := 41) dX12_tells_37 (by decide) g7 g8 (fun c9 => ?_) (fun c9 => ?_)
    · replace hw := hw.1 c9
      refine V.iconst hc dX12_tells_41 ?_
      refine V.istore_n hc dX12_tells_42 rfl rfl (lo' := [(22, o), (0, a1), (0, 1), (1, 0)]) rfl ?_
      refine V.iload_n hc dX12_tells_43 rfl rfl ?_
      refine V.aload_n (t := 12) hc dX12_tells_44 rfl rfl ?_
      refine V.gI hc gI_X12_63 rfl dX12_tells_45 ?_
      obtain ⟨g10, hw⟩ := hw
      obtain ⟨g11, hw⟩ := hw
      refine V.icmp_ne hc (tgt := 89) dX12_tells_48 (by decide) g10 g11 (fun c12 => ?_) (fun c12 => ?_)
      · replace hw := hw.1 c12
        exact tX12_tells_89 hc hr  hw
      · replace hw := hw.2 c12
        refine V.aload_n (t := 12) hc dX12_tells_51 rfl rfl ?_
        refine V.gI hc gI_X12_323 rfl dX12_tells_52 ?_
        refine V.iconst hc dX12_tells_55 ?_
        obtain ⟨q32, hw⟩ := hw
        have kJ34 : ∀ t31 : Int, ((4 < h 12 o 31 → t31 = 1) ∧ (¬ 4 < h 12 o 31 → ((¬ bAnd (bShr (h 12 o 30) (h 12 o 31)) 1 = 0 → t31 = 0) ∧ (bAnd (bShr (h 12 o 30) (h 12 o 31)) 1 = 0 → t31 = 1)))) → V G p l e (rmD 25 0) s m args below meth c (MQ below (QV G P) args s 0 0 (va_Aof G)) 4 78 [(22, o), (0, a1), (1, 0), (1, 0)] [(0, t31)] h 0 := by
          intro t31 he
          replace hw := hw t31 he
          clear he
          refine V.istore_n hc dX12_tells_78 rfl rfl (lo' := [(22, o), (0, a1), (0, t31), (1, 0)]) rfl ?_
          refine V.aload_n (t := 12) hc dX12_tells_79 rfl rfl ?_
          refine V.dup hc dX12_tells_80 (by simp) ?_
          refine V.gI hc gI_X12_323 rfl dX12_tells_81 ?_
          refine V.iconst hc dX12_tells_84 ?_
          refine V.iadd hc dX12_tells_85 ?_
          refine V.pI hc pI_X12_323 rfl dX12_tells_86 (fun h33 e => ?_)
          replace hw := hw h33 e
          clear e
          exact tX12_tells_89 hc hr  hw
        obtain ⟨g29, q35⟩ := q32
        refine V.icmp_gt hc (tgt := 73) dX12_tells_56 (by decide) g29 (by omega) (fun c36 => ?_) (fun c36 => ?_)
        · refine V.iconst hc dX12_tells_73 ?_
          refine V.goto hc (tgt := 78) dX12_tells_74 (by decide) ?_
          refine V.drop (lo' := [(22, o), (0, a1), (1, 0), (1, 0)]) ⟨Or.inr rfl, Or.inr rfl, Or.inl rfl, Or.inr rfl, trivial⟩ ?_
          exact kJ34 _ ⟨fun _ => rfl, (fun q => absurd c36 q)⟩
        · have q37 := q35 c36
          have g30 := q37
          refine V.aload_n (t := 12) hc dX12_tells_59 rfl rfl ?_
          refine V.gI hc gI_X12_326 rfl dX12_tells_60 ?_
          refine V.aload_n (t := 12) hc dX12_tells_63 rfl rfl ?_
          refine V.gI hc gI_X12_323 rfl dX12_tells_64 ?_
          refine V.ishr hc dX12_tells_67 ?_
          refine V.iconst hc dX12_tells_68 ?_
          refine V.iand hc dX12_tells_69 ?_
          refine V.if_ne hc (tgt := 77) dX12_tells_70 (by decide) g30 (fun c38 => ?_) (fun c38 => ?_)
          · refine V.iconst hc dX12_tells_77 ?_
            refine V.drop (lo' := [(22, o), (0, a1), (1, 0), (1, 0)]) ⟨Or.inr rfl, Or.inr rfl, Or.inl rfl, Or.inr rfl, trivial⟩ ?_
            exact kJ34 _ ⟨(fun q => absurd q c36), fun _ => ⟨fun _ => rfl, (fun q => absurd q c38)⟩⟩
          · refine V.iconst hc dX12_tells_73 ?_
            refine V.goto hc (tgt := 78) dX12_tells_74 (by decide) ?_
            refine V.drop (lo' := [(22, o), (0, a1), (1, 0), (1, 0)]) ⟨Or.inr rfl, Or.inr rfl, Or.inl rfl, Or.inr rfl, trivial⟩ ?_
            exact kJ34 _ ⟨(fun q => absurd q c36), fun _ => ⟨(fun q => absurd c38 q), fun _ => rfl⟩⟩
    · replace hw := hw.2 c9
      exact V.vret hc hr dX12_tells_40 hw
theorem tX12_unit_7 {G : GG} {p : Program} {l : Launch} {e : Jvm.Env} {s : State} {m : MethodId} {args : Array Value} {below : List Frame} {meth : Method} {c : Code} {P : HP → Prop} (hc : VC G p (rmD 39 0) s m args meth c RX12 cX12_unit 2 39) (hr : meth.sig.returnType = none) {o : Int} {K28 : HP → Prop} (hK28 : ∀  (h : HP), K28  h → V G p l e (rmD 39 0) s m args below meth c (MQ below (QV G P) args s 0 0 (va_Aof G)) 2 28 [(22, o), (1, 0)] [] h 0) : ∀ (f : Nat) (l1 : Int) (h : HP), wX12_unit_7 o K28 f l1 h → V G p l e (rmD 39 0) s m args below meth c (MQ below (QV G P) args s 0 0 (va_Aof G)) 2 7 [(22, o), (0, l1)] [] h 0 := by
  intro f
  induction f with
  | zero =>
    intro l1 h hw
    exact hw.elim
  | succ f ih =>
    intro l1 h hw
    refine V.iload_n hc dX12_unit_7 rfl rfl ?_
    refine V.aload_n (t := 12) hc dX12_unit_8 rfl rfl ?_
    refine V.gR hc gR_X12_21 (i' := o) rfl dX12_unit_9 ?_
    refine V.iconst hc dX12_unit_12 ?_
    refine V.ald hc ak_49 (by omega) dX12_unit_13 ?_
    obtain ⟨g2, hw⟩ := hw
    obtain ⟨g3, hw⟩ := hw
    refine V.icmp_ge hc (tgt := 28) dX12_unit_14 (by decide) g2 g3 (fun c4 => ?_) (fun c4 => ?_)
    · replace hw := hw.1 c4
      refine V.drop (lo' := [(22, o), (1, 0)]) ⟨Or.inr rfl, Or.inl rfl, trivial⟩ ?_
      exact hK28 _ hw
    · replace hw := hw.2 c4
      refine V.aload_n (t := 12) hc dX12_unit_17 rfl rfl ?_
      refine V.iload_n hc dX12_unit_18 rfl rfl ?_
      refine V.callVV hc (qX12_tells G l _ _ _ _ hw) mo_X12_tells ml_X12_335 (by rfl) rfl rfl (as := [(0, l1)]) rfl rfl rfl rfl rfl ⟨Nat.zero_le _, Nat.zero_le _⟩ dX12_unit_19 (fun h5 hw => ?_)
      refine V.iinc hc dX12_unit_22 rfl rfl (lo' := [(22, o), (0, l1 + 1)]) rfl ?_
      refine V.goto hc (tgt := 7) dX12_unit_25 (by decide) ?_
      exact ih _ _ hw
theorem tX12_unit_66 {G : GG} {p : Program} {l : Launch} {e : Jvm.Env} {s : State} {m : MethodId} {args : Array Value} {below : List Frame} {meth : Method} {c : Code} {P : HP → Prop} (hc : VC G p (rmD 39 0) s m args meth c RX12 cX12_unit 2 39) (hr : meth.sig.returnType = none) {o : Int} {h : HP} (hw : wX12_unit_66 o P h) : V G p l e (rmD 39 0) s m args below meth c (MQ below (QV G P) args s 0 0 (va_Aof G)) 2 66 [(22, o), (1, 0)] [] h 0 := by
  refine V.aload_n (t := 12) hc dX12_unit_66 rfl rfl ?_
  refine V.gR hc gR_X12_43 (i' := o) rfl dX12_unit_67 ?_
  refine V.sipush hc dX12_unit_70 (by decide) ?_
  refine V.dup2 hc dX12_unit_73 (by simp) (by simp) ?_
  refine V.ald hc ak_56 (by omega) dX12_unit_74 ?_
  refine V.iconst hc dX12_unit_75 ?_
  refine V.iadd hc dX12_unit_76 ?_
  refine V.ast hc ak_56 (by omega) dX12_unit_77 (fun h12 e => ?_)
  replace hw := hw h12 e
  clear e
  exact V.vret hc hr dX12_unit_78 hw
theorem tX12_unit_43 {G : GG} {p : Program} {l : Launch} {e : Jvm.Env} {s : State} {m : MethodId} {args : Array Value} {below : List Frame} {meth : Method} {c : Code} {P : HP → Prop} (hc : VC G p (rmD 39 0) s m args meth c RX12 cX12_unit 2 39) (hr : meth.sig.returnType = none) {o : Int} {h : HP} (hw : wX12_unit_43 o P h) : V G p l e (rmD 39 0) s m args below meth c (MQ below (QV G P) args s 0 0 (va_Aof G)) 2 43 [(22, o), (1, 0)] [] h 0 := by
  refine V.aload_n (t := 12) hc dX12_unit_43 rfl rfl ?_
  refine V.gR hc gR_X12_43 (i' := o) rfl dX12_unit_44 ?_
  refine V.sipush hc dX12_unit_47 (by decide) ?_
  refine V.ald hc ak_56 (by omega) dX12_unit_50 ?_
  obtain ⟨g10, hw⟩ := hw
  refine V.if_le hc (tgt := 66) dX12_unit_51 (by decide) g10 (fun c11 => ?_) (fun c11 => ?_)
  · replace hw := hw.1 c11
    exact tX12_unit_66 hc hr  hw
  · replace hw := hw.2 c11
    refine V.aload_n (t := 12) hc dX12_unit_54 rfl rfl ?_
    refine V.gR hc gR_X12_43 (i' := o) rfl dX12_unit_55 ?_
    refine V.sipush hc dX12_unit_58 (by decide) ?_
    refine V.dup2 hc dX12_unit_61 (by simp) (by simp) ?_
    refine V.ald hc ak_56 (by omega) dX12_unit_62 ?_
    refine V.iconst hc dX12_unit_63 ?_
    refine V.isub hc dX12_unit_64 ?_
    refine V.ast hc ak_56 (by omega) dX12_unit_65 (fun h13 e => ?_)
    replace hw := hw h13 e
    clear e
    exact tX12_unit_66 hc hr  hw
theorem qX12_unit (G : GG) (l : Launch) (o : Int) (h : HP) (P : HP → Prop) (hw : wX12_unit o h P) : CnV l G yX12_unit cX12_unit 2 39 [(22, o)] h P := by
  refine CnV.of (lo := [(22, o), (1, 0)]) (by decide) rfl rfl rfl ?_
  intro p e s m args below meth c hc hr
  have hc : VC G p (rmD 39 0) s m args meth c RX12 cX12_unit 2 39 := hc
  refine V.aload_n (t := 12) hc dX12_unit_0 rfl rfl ?_
  refine V.iconst hc dX12_unit_1 ?_
  refine V.pI hc pI_X12_317 rfl dX12_unit_2 (fun h1 e => ?_)
  replace hw := hw h1 e
  clear e
  refine V.iconst hc dX12_unit_5 ?_
  refine V.istore_n hc dX12_unit_6 rfl rfl (lo' := [(22, o), (0, 0)]) rfl ?_
  obtain ⟨f6, hw⟩ := hw
  refine tX12_unit_7 hc hr ?_ f6 _ _ hw
  · intro h7 hw
    refine V.aload_n (t := 12) hc dX12_unit_28 rfl rfl ?_
    refine V.gR hc gR_X12_43 (i' := o) rfl dX12_unit_29 ?_
    refine V.sipush hc dX12_unit_32 (by decide) ?_
    refine V.ald hc ak_56 (by omega) dX12_unit_35 ?_
    obtain ⟨g8, hw⟩ := hw
    refine V.if_ne hc (tgt := 43) dX12_unit_36 (by decide) g8 (fun c9 => ?_) (fun c9 => ?_)
    · replace hw := hw.1 c9
      exact tX12_unit_43 hc hr  hw
    · replace hw := hw.2 c9
      refine V.aload_n (t := 12) hc dX12_unit_39 rfl rfl ?_
      refine V.callVV hc (qX12_choose G l _ _ _ hw) mo_X12_choose ml_X12_338 (by rfl) rfl rfl (as := []) rfl rfl rfl rfl rfl ⟨Nat.zero_le _, Nat.zero_le _⟩ dX12_unit_40 (fun h14 hw => ?_)
      exact tX12_unit_43 hc hr  hw
