def wX1_copyFrom_94 (o : Int) (o1 : Int) (a2 : Int) (l3 : Int) (l4 : Int) (l5 : Int) (K143 : HP → Prop) : Nat → Int → HP → Prop
  | 0, _, _ => False
  | f + 1, l6, h => (0 ≤ l4 ∧ l4 < 36) ∧ (-2147483648 ≤ l6 ∧ l6 < 2147483648) ∧ (-2147483648 ≤ l5 + (h 17 o l4) ∧ l5 + (h 17 o l4) < 2147483648) ∧ ((l5 + (h 17 o l4) ≤ l6 → K143 h) ∧ (¬ l5 + (h 17 o l4) ≤ l6 → (0 ≤ l6 ∧ l6 < 1152) ∧ (0 ≤ l6 ∧ l6 < 1152) ∧ ∀ h19 : HP, h19 = up h 18 o l6 (h 18 o1 l6) → (0 ≤ l6 ∧ l6 < 1152) ∧ (0 ≤ l6 ∧ l6 < 1152) ∧ ∀ h22 : HP, h22 = up h19 19 o l6 (h19 19 o1 l6) → wX1_copyFrom_94 o o1 a2 l3 l4 l5 K143 f (l6 + 1) h22))
def wX1_copyFrom_77 (o : Int) (o1 : Int) (a2 : Int) (l3 : Int) (K149 : HP → Prop) : Nat → Int → HP → Prop
  | 0, _, _ => False
  | f + 1, l4, h => (-2147483648 ≤ l4 ∧ l4 < 2147483648) ∧ (-2147483648 ≤ l3 ∧ l3 < 2147483648) ∧ ((l3 ≤ l4 → K149 h) ∧ (¬ l3 ≤ l4 → (∃ f24 : Nat, wX1_copyFrom_94 o o1 a2 l3 l4 (l4 * 32) (fun h25 => wX1_copyFrom_77 o o1 a2 l3 K149 f (l4 + 1) h25) f24 (l4 * 32) h)))
def wX1_copyFrom (o : Int) (o1 : Int) (a2 : Int) (h : HP) (P : HP → Prop) : Prop := ((0 : Int) ≤ 0 ∧ (0 : Int) ≤ 0 ∧ (0 : Int) ≤ a2 * 3 ∧ (0 + (a2 * 3) : Int) ≤ 36 ∧ (0 + (a2 * 3) : Int) ≤ 36) ∧ ∀ h1 : HP, h1 = upr h 13 o (fun j => if 0 ≤ j ∧ j < 0 + (a2 * 3) then h 13 o1 (0 + (j - 0)) else h 13 o j) → ((0 : Int) ≤ 0 ∧ (0 : Int) ≤ 0 ∧ (0 : Int) ≤ a2 * 3 ∧ (0 + (a2 * 3) : Int) ≤ 36 ∧ (0 + (a2 * 3) : Int) ≤ 36) ∧ ∀ h3 : HP, h3 = upr h1 14 o (fun j => if 0 ≤ j ∧ j < 0 + (a2 * 3) then h1 14 o1 (0 + (j - 0)) else h1 14 o j) → ((0 : Int) ≤ 0 ∧ (0 : Int) ≤ 0 ∧ (0 : Int) ≤ a2 * 3 ∧ (0 + (a2 * 3) : Int) ≤ 36 ∧ (0 + (a2 * 3) : Int) ≤ 36) ∧ ∀ h5 : HP, h5 = upr h3 15 o (fun j => if 0 ≤ j ∧ j < 0 + (a2 * 3) then h3 15 o1 (0 + (j - 0)) else h3 15 o j) → ((0 : Int) ≤ 0 ∧ (0 : Int) ≤ 0 ∧ (0 : Int) ≤ a2 * 3 ∧ (0 + (a2 * 3) : Int) ≤ 36 ∧ (0 + (a2 * 3) : Int) ≤ 36) ∧ ∀ h7 : HP, h7 = upr h5 16 o (fun j => if 0 ≤ j ∧ j < 0 + (a2 * 3) then h5 16 o1 (0 + (j - 0)) else h5 16 o j) → ((0 : Int) ≤ 0 ∧ (0 : Int) ≤ 0 ∧ (0 : Int) ≤ a2 * 3 ∧ (0 + (a2 * 3) : Int) ≤ 36 ∧ (0 + (a2 * 3) : Int) ≤ 36) ∧ ∀ h9 : HP, h9 = upr h7 17 o (fun j => if 0 ≤ j ∧ j < 0 + (a2 * 3) then h7 17 o1 (0 + (j - 0)) else h7 17 o j) → (∃ f26 : Nat, wX1_copyFrom_77 o o1 a2 (a2 * 3) (fun h27 => P h27) f26 0 h9)
theorem tX1_copyFrom_94 {G : GG} {p : Program} {l : Launch} {e : Jvm.Env} {s : State} {m : MethodId} {args : Array Value} {below : List Frame} {meth : Method} {c : Code} {P : HP → Prop} (hc : VC G p (rmD 8 0) s m args meth c RX1 cX1_copyFrom 7 8) (hr : meth.sig.returnType = none) {o : Int} {o1 : Int} {a2 : Int} {l3 : Int} {l4 : Int} {l5 : Int} {K143 : HP → Prop} (hK143 : ∀  (h : HP), K143  h → V G p l e (rmD 8 0) s m args below meth c (MQ below (QV G P) args s 0 0 (va_Aof G)) 7 143 [(11, o), (11, o1), (1, 0), (0, l3), (0, l4), (1, 0), (1, 0)] [] h 0) : ∀ (f : Nat) (l6 : Int) (h : HP), wX1_copyFrom_94 o o1 a2 l3 l4 l5 K143 f l6 h → V G p l e (rmD 8 0) s m args below meth c (MQ below (QV G P) args s 0 0 (va_Aof G)) 7 94 [(11, o), (11, o1), (1, 0), (0, l3), (0, l4), (0, l5), (0, l6)] [] h 0 := by
  intro f
  induction f with
  | zero =>
    intro l6 h hw
    exact hw.elim
  | succ f ih =>
    intro l6 h hw
    refine V.iload hc dX1_copyFrom_94 rfl ?_
    refine V.iload hc dX1_copyFrom_96 rfl ?_
    refine V.aload_n (t := 1) hc dX1_copyFrom_98 rfl rfl ?_
    refine V.gR hc gR_X1_24 (i' := o) rfl dX1_copyFrom_99 ?_
    refine V.iload hc dX1_copyFrom_102 rfl ?_
    obtain ⟨g14, hw⟩ := hw
    refine V.ald hc ak_17 g14 dX1_copyFrom_104 ?_
    refine V.iadd hc dX1_copyFrom_105 ?_
    obtain ⟨g15, hw⟩ := hw
    obtain ⟨g16, hw⟩ := hw
    refine V.icmp_ge hc (tgt := 143) dX1_copyFrom_106 (by decide) g15 g16 (fun c17 => ?_) (fun c17 => ?_)
    · replace hw := hw.1 c17
      refine V.drop (lo' := [(11, o), (11, o1), (1, 0), (0, l3), (0, l4), (1, 0), (1, 0)]) ⟨Or.inr rfl, Or.inr rfl, Or.inr rfl, Or.inr rfl, Or.inr rfl, Or.inl rfl, Or.inl rfl, trivial⟩ ?_
      exact hK143 _ hw
    · replace hw := hw.2 c17
      refine V.aload_n (t := 1) hc dX1_copyFrom_109 rfl rfl ?_
      refine V.gR hc gR_X1_27 (i' := o) rfl dX1_copyFrom_110 ?_
      refine V.iload hc dX1_copyFrom_113 rfl ?_
      refine V.aload_n (t := 1) hc dX1_copyFrom_115 rfl rfl ?_
      refine V.gR hc gR_X1_27 (i' := o1) rfl dX1_copyFrom_116 ?_
      refine V.iload hc dX1_copyFrom_119 rfl ?_
      obtain ⟨g18, hw⟩ := hw
      refine V.ald hc ak_18 g18 dX1_copyFrom_121 ?_
      obtain ⟨g20, hw⟩ := hw
      refine V.ast hc ak_18 g20 dX1_copyFrom_122 (fun h19 e => ?_)
      replace hw := hw h19 e
      clear e
      refine V.aload_n (t := 1) hc dX1_copyFrom_123 rfl rfl ?_
      refine V.gR hc gR_X1_30 (i' := o) rfl dX1_copyFrom_124 ?_
      refine V.iload hc dX1_copyFrom_127 rfl ?_
      refine V.aload_n (t := 1) hc dX1_copyFrom_129 rfl rfl ?_
      refine V.gR hc gR_X1_30 (i' := o1) rfl dX1_copyFrom_130 ?_
      refine V.iload hc dX1_copyFrom_133 rfl ?_
      obtain ⟨g21, hw⟩ := hw
      refine V.ald hc ak_19 g21 dX1_copyFrom_135 ?_
      obtain ⟨g23, hw⟩ := hw
      refine V.ast hc ak_19 g23 dX1_copyFrom_136 (fun h22 e => ?_)
      replace hw := hw h22 e
      clear e
      refine V.iinc hc dX1_copyFrom_137 rfl rfl (lo' := [(11, o), (11, o1), (1, 0), (0, l3), (0, l4), (0, l5), (0, l6 + 1)]) rfl ?_
      refine V.goto hc (tgt := 94) dX1_copyFrom_140 (by decide) ?_
      exact ih _ _ hw
theorem tX1_copyFrom_77 {G : GG} {p : Program} {l : Launch} {e : Jvm.Env} {s : State} {m : MethodId} {args : Array Value} {below : List Frame} {meth : Method} {c : Code} {P : HP → Prop} (hc : VC G p (rmD 8 0) s m args meth c RX1 cX1_copyFrom 7 8) (hr : meth.sig.returnType = none) {o : Int} {o1 : Int} {a2 : Int} {l3 : Int} {K149 : HP → Prop} (hK149 : ∀  (h : HP), K149  h → V G p l e (rmD 8 0) s m args below meth c (MQ below (QV G P) args s 0 0 (va_Aof G)) 7 149 [(1, 0), (1, 0), (1, 0), (1, 0), (1, 0), (1, 0), (1, 0)] [] h 0) : ∀ (f : Nat) (l4 : Int) (h : HP), wX1_copyFrom_77 o o1 a2 l3 K149 f l4 h → V G p l e (rmD 8 0) s m args below meth c (MQ below (QV G P) args s 0 0 (va_Aof G)) 7 77 [(11, o), (11, o1), (1, 0), (0, l3), (0, l4), (1, 0), (1, 0)] [] h 0 := by
  intro f
  induction f with
  | zero =>
    intro l4 h hw
    exact hw.elim
  | succ f ih =>
    intro l4 h hw
    refine V.iload hc dX1_copyFrom_77 rfl ?_
    refine V.iload_n hc dX1_copyFrom_79 rfl rfl ?_
    obtain ⟨g11, hw⟩ := hw
    obtain ⟨g12, hw⟩ := hw
    refine V.icmp_ge hc (tgt := 149) dX1_copyFrom_80 (by decide) g11 g12 (fun c13 => ?_) (fun c13 => ?_)
    · replace hw := hw.1 c13
      refine V.drop (lo' := [(1, 0), (1, 0), (1, 0), (1, 0), (1, 0), (1, 0), (1, 0)]) ⟨Or.inl rfl, Or.inl rfl, Or.inr rfl, Or.inl rfl, Or.inl rfl, Or.inr rfl, Or.inr rfl, trivial⟩ ?_
      exact hK149 _ hw
    · replace hw := hw.2 c13
      refine V.iload hc dX1_copyFrom_83 rfl ?_
      refine V.bipush hc dX1_copyFrom_85 (by decide) ?_
      refine V.imul hc dX1_copyFrom_87 ?_
      refine V.istore hc dX1_copyFrom_88 rfl (lo' := [(11, o), (11, o1), (1, 0), (0, l3), (0, l4), (0, l4 * 32), (1, 0)]) rfl ?_
      refine V.iload hc dX1_copyFrom_90 rfl ?_
      refine V.istore hc dX1_copyFrom_92 rfl (lo' := [(11, o), (11, o1), (1, 0), (0, l3), (0, l4), (0, l4 * 32), (0, l4 * 32)]) rfl ?_
      obtain ⟨f24, hw⟩ := hw
      refine tX1_copyFrom_94 hc hr ?_ f24 _ _ hw
      · intro h25 hw
        refine V.iinc hc dX1_copyFrom_143 rfl rfl (lo' := [(11, o), (11, o1), (1, 0), (0, l3), (0, l4 + 1), (1, 0), (1, 0)]) rfl ?_
        refine V.goto hc (tgt := 77) dX1_copyFrom_146 (by decide) ?_
        exact ih _ _ hw
theorem qX1_copyFrom (G : GG) (l : Launch) (o : Int) (o1 : Int) (a2 : Int) (h : HP) (P : HP → Prop) (hw : wX1_copyFrom o o1 a2 h P) : CnV l G yX1_copyFrom cX1_copyFrom 7 8 [(11, o), (11, o1), (0, a2)] h P := by
  refine CnV.of (lo := [(11, o), (11, o1), (0, a2), (1, 0), (1, 0), (1, 0), (1, 0)]) (by decide) rfl rfl rfl ?_
  intro p e s m args below meth c hc hr
  have hc : VC G p (rmD 8 0) s m args meth c RX1 cX1_copyFrom 7 8 := hc
  refine V.iload_n hc dX1_copyFrom_0 rfl rfl ?_
  refine V.iconst hc dX1_copyFrom_1 ?_
  refine V.imul hc dX1_copyFrom_2 ?_
  refine V.istore_n hc dX1_copyFrom_3 rfl rfl (lo' := [(11, o), (11, o1), (0, a2), (0, a2 * 3), (1, 0), (1, 0), (1, 0)]) rfl ?_
  refine V.aload_n (t := 1) hc dX1_copyFrom_4 rfl rfl ?_
  refine V.gR hc gR_X1_11 (i' := o1) rfl dX1_copyFrom_5 ?_
  refine V.iconst hc dX1_copyFrom_8 ?_
  refine V.aload_n (t := 1) hc dX1_copyFrom_9 rfl rfl ?_
  refine V.gR hc gR_X1_11 (i' := o) rfl dX1_copyFrom_10 ?_
  refine V.iconst hc dX1_copyFrom_13 ?_
  refine V.iload_n hc dX1_copyFrom_14 rfl rfl ?_
  obtain ⟨g2, hw⟩ := hw
  refine V.acp hc ml_X1_37 rfl ak_13 ak_13 g2 dX1_copyFrom_15 (fun h1 e => ?_)
  replace hw := hw h1 e
  clear e
  refine V.aload_n (t := 1) hc dX1_copyFrom_18 rfl rfl ?_
  refine V.gR hc gR_X1_15 (i' := o1) rfl dX1_copyFrom_19 ?_
  refine V.iconst hc dX1_copyFrom_22 ?_
  refine V.aload_n (t := 1) hc dX1_copyFrom_23 rfl rfl ?_
  refine V.gR hc gR_X1_15 (i' := o) rfl dX1_copyFrom_24 ?_
  refine V.iconst hc dX1_copyFrom_27 ?_
  refine V.iload_n hc dX1_copyFrom_28 rfl rfl ?_
  obtain ⟨g4, hw⟩ := hw
  refine V.acp hc ml_X1_37 rfl ak_14 ak_14 g4 dX1_copyFrom_29 (fun h3 e => ?_)
  replace hw := hw h3 e
  clear e
  refine V.aload_n (t := 1) hc dX1_copyFrom_32 rfl rfl ?_
  refine V.gR hc gR_X1_18 (i' := o1) rfl dX1_copyFrom_33 ?_
  refine V.iconst hc dX1_copyFrom_36 ?_
  refine V.aload_n (t := 1) hc dX1_copyFrom_37 rfl rfl ?_
  refine V.gR hc gR_X1_18 (i' := o) rfl dX1_copyFrom_38 ?_
  refine V.iconst hc dX1_copyFrom_41 ?_
  refine V.iload_n hc dX1_copyFrom_42 rfl rfl ?_
  obtain ⟨g6, hw⟩ := hw
  refine V.acp hc ml_X1_37 rfl ak_15 ak_15 g6 dX1_copyFrom_43 (fun h5 e => ?_)
  replace hw := hw h5 e
  clear e
  refine V.aload_n (t := 1) hc dX1_copyFrom_46 rfl rfl ?_
  refine V.gR hc gR_X1_21 (i' := o1) rfl dX1_copyFrom_47 ?_
  refine V.iconst hc dX1_copyFrom_50 ?_
  refine V.aload_n (t := 1) hc dX1_copyFrom_51 rfl rfl ?_
  refine V.gR hc gR_X1_21 (i' := o) rfl dX1_copyFrom_52 ?_
  refine V.iconst hc dX1_copyFrom_55 ?_
  refine V.iload_n hc dX1_copyFrom_56 rfl rfl ?_
  obtain ⟨g8, hw⟩ := hw
  refine V.acp hc ml_X1_37 rfl ak_16 ak_16 g8 dX1_copyFrom_57 (fun h7 e => ?_)
  replace hw := hw h7 e
  clear e
  refine V.aload_n (t := 1) hc dX1_copyFrom_60 rfl rfl ?_
  refine V.gR hc gR_X1_24 (i' := o1) rfl dX1_copyFrom_61 ?_
  refine V.iconst hc dX1_copyFrom_64 ?_
  refine V.aload_n (t := 1) hc dX1_copyFrom_65 rfl rfl ?_
  refine V.gR hc gR_X1_24 (i' := o) rfl dX1_copyFrom_66 ?_
  refine V.iconst hc dX1_copyFrom_69 ?_
  refine V.iload_n hc dX1_copyFrom_70 rfl rfl ?_
  obtain ⟨g10, hw⟩ := hw
  refine V.acp hc ml_X1_37 rfl ak_17 ak_17 g10 dX1_copyFrom_71 (fun h9 e => ?_)
  replace hw := hw h9 e
  clear e
  refine V.iconst hc dX1_copyFrom_74 ?_
  refine V.istore hc dX1_copyFrom_75 rfl (lo' := [(11, o), (11, o1), (0, a2), (0, a2 * 3), (0, 0), (1, 0), (1, 0)]) rfl ?_
  obtain ⟨f26, hw⟩ := hw
  refine V.drop (lo' := [(11, o), (11, o1), (1, 0), (0, a2 * 3), (0, 0), (1, 0), (1, 0)]) ⟨Or.inr rfl, Or.inr rfl, Or.inl rfl, Or.inr rfl, Or.inr rfl, Or.inr rfl, Or.inr rfl, trivial⟩ ?_
  refine tX1_copyFrom_77 hc hr ?_ f26 _ _ hw
  · intro h27 hw
    exact V.vret hc hr dX1_copyFrom_149 hw
def wX8_untilTold (o : Int) (a1 : Int) (a2 : Int) (h : HP) (P : Int → HP → Prop) : Prop := (0 ≤ a1 ∧ a1 < 8) ∧ (-2147483648 ≤ h 41 o a1 ∧ h 41 o a1 < 2147483648) ∧ ((h 41 o a1 < 1 → P 1000000 h) ∧ (¬ h 41 o a1 < 1 → (0 ≤ a1 ∧ a1 < 8) ∧ (0 ≤ a1 ∧ a1 < 8) ∧ (-2147483648 ≤ h 42 o a1 ∧ h 42 o a1 < 2147483648) ∧ (-2147483648 ≤ h 41 o a1 ∧ h 41 o a1 < 2147483648) ∧ ((h 42 o a1 < h 41 o a1 → (0 ≤ a1 ∧ a1 < 8) ∧ (0 ≤ a2 ∧ a2 < 2147483648) ∧ (0 < h 41 o a1 ∧ h 41 o a1 < 2147483648) ∧ (0 ≤ a1 ∧ a1 < 8) ∧ ((-2147483648 ≤ a2 % (h 41 o a1) ∧ a2 % (h 41 o a1) < 2147483648) ∧ (-2147483648 ≤ h 42 o a1 ∧ h 42 o a1 < 2147483648) ∧ (h 42 o a1 < a2 % (h 41 o a1) → ((0 ≤ a1 ∧ a1 < 8) ∧ (0 ≤ a1 ∧ a1 < 8))) ∧ (¬ h 42 o a1 < a2 % (h 41 o a1) → (0 ≤ a1 ∧ a1 < 8))) ∧ ∀ t18 : Int, ((h 42 o a1 < a2 % (h 41 o a1) → t18 = ((h 42 o a1) - (a2 % (h 41 o a1))) + (h 41 o a1)) ∧ (¬ h 42 o a1 < a2 % (h 41 o a1) → t18 = (h 42 o a1) - (a2 % (h 41 o a1)))) → P t18 h) ∧ (¬ h 42 o a1 < h 41 o a1 → P 1000000 h))))
theorem qX8_untilTold (G : GG) (l : Launch) (o : Int) (a1 : Int) (a2 : Int) (h : HP) (P : Int → HP → Prop) (hw : wX8_untilTold o a1 a2 h P) : CnI l G yX8_untilTold cX8_untilTold 4 (some .int) 8 [(18, o), (0, a1), (0, a2)] h P := by
  refine CnI.of (lo := [(18, o), (0, a1), (0, a2), (1, 0)]) (by decide) rfl rfl rfl ?_
  intro p e s m args below meth c hc hr
  have hc : VC G p (rmD 8 0) s m args meth c RX8 cX8_untilTold 4 8 := hc
  refine V.aload_n (t := 8) hc dX8_untilTold_0 rfl rfl ?_
  refine V.gR hc gR_X8_31 (i' := o) rfl dX8_untilTold_1 ?_
  refine V.iload_n hc dX8_untilTold_4 rfl rfl ?_
  obtain ⟨g1, hw⟩ := hw
  refine V.ald hc ak_41 g1 dX8_untilTold_5 ?_
  refine V.iconst hc dX8_untilTold_6 ?_
  obtain ⟨g2, hw⟩ := hw
  refine V.icmp_lt hc (tgt := 25) dX8_untilTold_7 (by decide) g2 (by omega) (fun c3 => ?_) (fun c3 => ?_)
  · replace hw := hw.1 c3
    refine V.ldc hc (x := 1000000) kl_X8_80 dX8_untilTold_25 ?_
    exact V.iret hc hr dX8_untilTold_27 hw
  · replace hw := hw.2 c3
    refine V.aload_n (t := 8) hc dX8_untilTold_10 rfl rfl ?_
    refine V.gR hc gR_X8_34 (i' := o) rfl dX8_untilTold_11 ?_
    refine V.iload_n hc dX8_untilTold_14 rfl rfl ?_
    obtain ⟨g4, hw⟩ := hw
    refine V.ald hc ak_42 g4 dX8_untilTold_15 ?_
    refine V.aload_n (t := 8) hc dX8_untilTold_16 rfl rfl ?_
    refine V.gR hc gR_X8_31 (i' := o) rfl dX8_untilTold_17 ?_
    refine V.iload_n hc dX8_untilTold_20 rfl rfl ?_
    obtain ⟨g5, hw⟩ := hw
    refine V.ald hc ak_41 g5 dX8_untilTold_21 ?_
    obtain ⟨g6, hw⟩ := hw
    obtain ⟨g7, hw⟩ := hw
    refine V.icmp_lt hc (tgt := 28) dX8_untilTold_22 (by decide) g6 g7 (fun c8 => ?_) (fun c8 => ?_)
    · replace hw := hw.1 c8
      refine V.iload_n hc dX8_untilTold_28 rfl rfl ?_
      refine V.aload_n (t := 8) hc dX8_untilTold_29 rfl rfl ?_
      refine V.gR hc gR_X8_31 (i' := o) rfl dX8_untilTold_30 ?_
      refine V.iload_n hc dX8_untilTold_33 rfl rfl ?_
      obtain ⟨g9, hw⟩ := hw
      refine V.ald hc ak_41 g9 dX8_untilTold_34 ?_
      obtain ⟨g10, hw⟩ := hw
      obtain ⟨g11, hw⟩ := hw
      refine V.irem hc g10 g11 dX8_untilTold_35 ?_
      refine V.istore_n hc dX8_untilTold_36 rfl rfl (lo' := [(18, o), (0, a1), (0, a2), (0, a2 % (h 41 o a1))]) rfl ?_
      refine V.iload_n hc dX8_untilTold_37 rfl rfl ?_
      refine V.aload_n (t := 8) hc dX8_untilTold_38 rfl rfl ?_
      refine V.gR hc gR_X8_34 (i' := o) rfl dX8_untilTold_39 ?_
      refine V.iload_n hc dX8_untilTold_42 rfl rfl ?_
      obtain ⟨g12, hw⟩ := hw
      refine V.ald hc ak_42 g12 dX8_untilTold_43 ?_
      obtain ⟨q19, hw⟩ := hw
      have kJ20 : ∀ t18 : Int, ((h 42 o a1 < a2 % (h 41 o a1) → t18 = ((h 42 o a1) - (a2 % (h 41 o a1))) + (h 41 o a1)) ∧ (¬ h 42 o a1 < a2 % (h 41 o a1) → t18 = (h 42 o a1) - (a2 % (h 41 o a1)))) → V G p l e (rmD 8 0) s m args below meth c (MQ below (QI G P) args s 0 0 (va_Aof G)) 4 73 [(1, 0), (1, 0), (1, 0), (1, 0)] [(0, t18)] h 0 := by
        intro t18 he
        replace hw := hw t18 he
        clear he
        exact V.iret hc hr dX8_untilTold_73 hw
      obtain ⟨g13, g14, q21, q22⟩ := q19
      refine V.icmp_gt hc (tgt := 58) dX8_untilTold_44 (by decide) g13 g14 (fun c23 => ?_) (fun c23 => ?_)
      · have q24 := q21 c23
        obtain ⟨g15, g16⟩ := q24
        refine V.aload_n (t := 8) hc dX8_untilTold_58 rfl rfl ?_
        refine V.gR hc gR_X8_34 (i' := o) rfl dX8_untilTold_59 ?_
        refine V.iload_n hc dX8_untilTold_62 rfl rfl ?_
        refine V.ald hc ak_42 g15 dX8_untilTold_63 ?_
        refine V.iload_n hc dX8_untilTold_64 rfl rfl ?_
        refine V.isub hc dX8_untilTold_65 ?_
        refine V.aload_n (t := 8) hc dX8_untilTold_66 rfl rfl ?_
        refine V.gR hc gR_X8_31 (i' := o) rfl dX8_untilTold_67 ?_
        refine V.iload_n hc dX8_untilTold_70 rfl rfl ?_
        refine V.ald hc ak_41 g16 dX8_untilTold_71 ?_
        refine V.iadd hc dX8_untilTold_72 ?_
        refine V.drop (lo' := [(1, 0), (1, 0), (1, 0), (1, 0)]) ⟨Or.inl rfl, Or.inl rfl, Or.inl rfl, Or.inl rfl, trivial⟩ ?_
        exact kJ20 _ ⟨fun _ => rfl, (fun q => absurd c23 q)⟩
      · have q25 := q22 c23
        have g17 := q25
        refine V.aload_n (t := 8) hc dX8_untilTold_47 rfl rfl ?_
        refine V.gR hc gR_X8_34 (i' := o) rfl dX8_untilTold_48 ?_
        refine V.iload_n hc dX8_untilTold_51 rfl rfl ?_
        refine V.ald hc ak_42 g17 dX8_untilTold_52 ?_
        refine V.iload_n hc dX8_untilTold_53 rfl rfl ?_
        refine V.isub hc dX8_untilTold_54 ?_
        refine V.goto hc (tgt := 73) dX8_untilTold_55 (by decide) ?_
        refine V.drop (lo' := [(1, 0), (1, 0), (1, 0), (1, 0)]) ⟨Or.inl rfl, Or.inl rfl, Or.inl rfl, Or.inl rfl, trivial⟩ ?_
        exact kJ20 _ ⟨(fun q => absurd q c23), fun _ => rfl⟩
    · replace hw := hw.2 c8
      refine V.ldc hc (x := 1000000) kl_X8_80 dX8_untilTold_25 ?_
      exact V.iret hc hr dX8_untilTold_27 hw
def wX1_lay_35 (o : Int) (a1 : Int) (a2 : Int) (a3 : Int) (l4 : Int) (l5 : Int) (h : HP) (K130 : Int → Int → Prop) : Nat → Int → Int → Prop
  | 0, _, _ => False
  | f + 1, l6, l7 => (-2147483648 ≤ l7 ∧ l7 < 2147483648) ∧ (-2147483648 ≤ l5 ∧ l5 < 2147483648) ∧ ((l5 ≤ l7 → K130 l6 l7) ∧ (¬ l5 ≤ l7 → (0 ≤ l7 ∧ l7 < 1152) ∧ (0 ≤ a1 ∧ a1 < 36) ∧ (-2147483648 ≤ a3 - (h 19 o l7) ∧ a3 - (h 19 o l7) < 2147483648) ∧ (-2147483648 ≤ h 16 o a1 ∧ h 16 o a1 < 2147483648) ∧ ((a3 - (h 19 o l7) < h 16 o a1 → K130 l6 l7) ∧ (¬ a3 - (h 19 o l7) < h 16 o a1 → (0 ≤ a1 ∧ a1 < 36) ∧ (0 ≤ l7 ∧ l7 < 1152) ∧ (0 ≤ l6 ∧ l6 < 1152) ∧ (0 ≤ l7 ∧ l7 < 1152) ∧ (0 ≤ l6 ∧ l6 < 1152) ∧ ((-2147483648 ≤ (h 15 o a1) * ((h 18 o l7) - (h 18 o l6)) ∧ (h 15 o a1) * ((h 18 o l7) - (h 18 o l6)) < 2147483648) ∧ (-2147483648 ≤ 100 * ((h 19 o l7) - (h 19 o l6)) ∧ 100 * ((h 19 o l7) - (h 19 o l6)) < 2147483648)) ∧ ∀ t20 : Int, (((h 15 o a1) * ((h 18 o l7) - (h 18 o l6)) ≤ 100 * ((h 19 o l7) - (h 19 o l6)) → t20 = 0) ∧ (¬ (h 15 o a1) * ((h 18 o l7) - (h 18 o l6)) ≤ 100 * ((h 19 o l7) - (h 19 o l6)) → t20 = 1)) → (-2147483648 ≤ t20 ∧ t20 < 2147483648) ∧ ∀ t23 : Int, ((t20 = 0 → t23 = l6) ∧ (¬ t20 = 0 → t23 = l7)) → wX1_lay_35 o a1 a2 a3 l4 l5 h K130 f t23 (l7 + 1)))))
def wX1_lay_298 (o : Int) (a1 : Int) (a2 : Int) (a3 : Int) (l4 : Int) (l5 : Int) (P : HP → Prop) (h : HP) : Prop := (-2147483648 ≤ l5 - l4 ∧ l5 - l4 < 2147483648) ∧ ((32 ≤ l5 - l4 → (0 ≤ a1 ∧ a1 < 36) ∧ ∀ h39 : HP, h39 = up h 17 o a1 (l5 - l4) → P h39) ∧ (¬ 32 ≤ l5 - l4 → (0 ≤ l5 ∧ l5 < 1152) ∧ ∀ h41 : HP, h41 = up h 18 o l5 a2 → (0 ≤ l5 ∧ l5 < 1152) ∧ ∀ h43 : HP, h43 = up h41 19 o l5 a3 → (0 ≤ a1 ∧ a1 < 36) ∧ ∀ h45 : HP, h45 = up h43 17 o a1 ((l5 + 1) - l4) → P h45))
def wX1_lay_240 (o : Int) (a1 : Int) (a2 : Int) (a3 : Int) (l4 : Int) (l5 : Int) (P : HP → Prop) (h : HP) : Prop := (-2147483648 ≤ l5 ∧ l5 < 2147483648) ∧ (-2147483648 ≤ l4 ∧ l4 < 2147483648) ∧ ((l5 ≤ l4 → wX1_lay_298 o a1 a2 a3 l4 l5 P h) ∧ (¬ l5 ≤ l4 → (0 ≤ l5 - 1 ∧ l5 - 1 < 1152) ∧ (-2147483648 ≤ h 19 o (l5 - 1) ∧ h 19 o (l5 - 1) < 2147483648) ∧ (-2147483648 ≤ a3 ∧ a3 < 2147483648) ∧ ((¬ h 19 o (l5 - 1) = a3 → wX1_lay_298 o a1 a2 a3 l4 l5 P h) ∧ (h 19 o (l5 - 1) = a3 → (0 ≤ l5 - 1 ∧ l5 - 1 < 1152) ∧ ((-2147483648 ≤ a2 ∧ a2 < 2147483648) ∧ (-2147483648 ≤ h 18 o (l5 - 1) ∧ h 18 o (l5 - 1) < 2147483648) ∧ (a2 ≤ h 18 o (l5 - 1) → (0 ≤ l5 - 1 ∧ l5 - 1 < 1152))) ∧ ∀ t55 : Int, ((a2 ≤ h 18 o (l5 - 1) → t55 = h 18 o (l5 - 1)) ∧ (¬ a2 ≤ h 18 o (l5 - 1) → t55 = a2)) → (0 ≤ l5 - 1 ∧ l5 - 1 < 1152) ∧ ∀ h57 : HP, h57 = up h 18 o (l5 - 1) t55 → (0 ≤ a1 ∧ a1 < 36) ∧ ∀ h59 : HP, h59 = up h57 17 o a1 (l5 - l4) → P h59))))
def wX1_lay_171 (o : Int) (a1 : Int) (a2 : Int) (a3 : Int) (l4 : Int) (l5 : Int) (l7 : Int) (K228 : HP → Prop) : Nat → Int → HP → Prop
  | 0, _, _ => False
  | f + 1, l8, h => (-2147483648 ≤ l8 ∧ l8 < 2147483648) ∧ (-2147483648 ≤ l5 ∧ l5 < 2147483648) ∧ ((l5 ≤ l8 → K228 h) ∧ (¬ l5 ≤ l8 → (0 ≤ l8 ∧ l8 < 1152) ∧ (0 ≤ ((l4 + 1) + l8) - l7 ∧ ((l4 + 1) + l8) - l7 < 1152) ∧ ∀ h75 : HP, h75 = up h 18 o (((l4 + 1) + l8) - l7) (h 18 o l8) → (0 ≤ l8 ∧ l8 < 1152) ∧ (0 ≤ ((l4 + 1) + l8) - l7 ∧ ((l4 + 1) + l8) - l7 < 1152) ∧ ∀ h78 : HP, h78 = up h75 19 o (((l4 + 1) + l8) - l7) (h75 19 o l8) → wX1_lay_171 o a1 a2 a3 l4 l5 l7 K228 f (l8 + 1) h78))
def wX1_lay (o : Int) (a1 : Int) (a2 : Int) (a3 : Int) (h : HP) (P : HP → Prop) : Prop := (0 ≤ a1 ∧ a1 < 36) ∧ (-2147483648 ≤ h 15 o a1 ∧ h 15 o a1 < 2147483648) ∧ ((¬ h 15 o a1 = 0 → (0 ≤ a1 ∧ a1 < 36) ∧ (∃ f29 : Nat, wX1_lay_35 o a1 a2 a3 (a1 * 32) ((a1 * 32) + (h 17 o a1)) h (fun l30 l31 => (-2147483648 ≤ l31 - (a1 * 32) ∧ l31 - (a1 * 32) < 2147483648) ∧ ((l31 - (a1 * 32) ≤ 1 → wX1_lay_240 o a1 a2 a3 (a1 * 32) ((a1 * 32) + (h 17 o a1)) P h) ∧ (¬ l31 - (a1 * 32) ≤ 1 → (0 ≤ l30 ∧ l30 < 1152) ∧ (0 ≤ a1 * 32 ∧ a1 * 32 < 1152) ∧ ∀ h66 : HP, h66 = up h 18 o (a1 * 32) (h 18 o l30) → (0 ≤ l30 ∧ l30 < 1152) ∧ (0 ≤ a1 * 32 ∧ a1 * 32 < 1152) ∧ ∀ h69 : HP, h69 = up h66 19 o (a1 * 32) (h66 19 o l30) → (∃ f80 : Nat, wX1_lay_171 o a1 a2 a3 (a1 * 32) ((a1 * 32) + (h 17 o a1)) l31 (fun h81 => wX1_lay_240 o a1 a2 a3 (a1 * 32) (((a1 * 32) + (h 17 o a1)) - ((l31 - (a1 * 32)) - 1)) P h81) f80 l31 h69)))) f29 (a1 * 32) (a1 * 32))) ∧ (h 15 o a1 = 0 → P h))
theorem tX1_lay_35 {G : GG} {p : Program} {l : Launch} {e : Jvm.Env} {s : State} {m : MethodId} {args : Array Value} {below : List Frame} {meth : Method} {c : Code} {P : HP → Prop} (hc : VC G p (rmD 8 0) s m args meth c RX1 cX1_lay 9 8) (hr : meth.sig.returnType = none) {o : Int} {a1 : Int} {a2 : Int} {a3 : Int} {l4 : Int} {l5 : Int} {h : HP} {K130 : Int → Int → Prop} (hK130 : ∀ (x6 : Int) (x7 : Int), K130 x6 x7 → V G p l e (rmD 8 0) s m args below meth c (MQ below (QV G P) args s 0 0 (va_Aof G)) 9 130 [(11, o), (0, a1), (0, a2), (0, a3), (0, l4), (0, l5), (0, x6), (0, x7), (1, 0)] [] h 0) : ∀ (f : Nat) (l6 : Int) (l7 : Int), wX1_lay_35 o a1 a2 a3 l4 l5 h K130 f l6 l7 → V G p l e (rmD 8 0) s m args below meth c (MQ below (QV G P) args s 0 0 (va_Aof G)) 9 35 [(11, o), (0, a1), (0, a2), (0, a3), (0, l4), (0, l5), (0, l6), (0, l7), (1, 0)] [] h 0 := by
  intro f
  induction f with
  | zero =>
    intro l6 l7 hw
    exact hw.elim
  | succ f ih =>
    intro l6 l7 hw
    refine V.iload hc dX1_lay_35 rfl ?_
    refine V.iload hc dX1_lay_37 rfl ?_
    obtain ⟨g5, hw⟩ := hw
    obtain ⟨g6, hw⟩ := hw
    refine V.icmp_ge hc (tgt := 130) dX1_lay_39 (by decide) g5 g6 (fun c7 => ?_) (fun c7 => ?_)
    · replace hw := hw.1 c7
      exact hK130 _ _ hw
    · replace hw := hw.2 c7
      refine V.iload_n hc dX1_lay_42 rfl rfl ?_
      refine V.aload_n (t := 1) hc dX1_lay_43 rfl rfl ?_
      refine V.gR hc gR_X1_30 (i' := o) rfl dX1_lay_44 ?_
      refine V.iload hc dX1_lay_47 rfl ?_
      obtain ⟨g8, hw⟩ := hw
      refine V.ald hc ak_19 g8 dX1_lay_49 ?_
      refine V.isub hc dX1_lay_50 ?_
      refine V.aload_n (t := 1) hc dX1_lay_51 rfl rfl ?_
      refine V.gR hc gR_X1_21 (i' := o) rfl dX1_lay_52 ?_
      refine V.iload_n hc dX1_lay_55 rfl rfl ?_
      obtain ⟨g9, hw⟩ := hw
      refine V.ald hc ak_16 g9 dX1_lay_56 ?_
      obtain ⟨g10, hw⟩ := hw
      obtain ⟨g11, hw⟩ := hw
      refine V.icmp_lt hc (tgt := 130) dX1_lay_57 (by decide) g10 g11 (fun c12 => ?_) (fun c12 => ?_)
      · replace hw := hw.1 c12
        exact hK130 _ _ hw
      · replace hw := hw.2 c12
        refine V.aload_n (t := 1) hc dX1_lay_60 rfl rfl ?_
        refine V.gR hc gR_X1_18 (i' := o) rfl dX1_lay_61 ?_
        refine V.iload_n hc dX1_lay_64 rfl rfl ?_
        obtain ⟨g13, hw⟩ := hw
        refine V.ald hc ak_15 g13 dX1_lay_65 ?_
        refine V.aload_n (t := 1) hc dX1_lay_66 rfl rfl ?_
        refine V.gR hc gR_X1_27 (i' := o) rfl dX1_lay_67 ?_
        refine V.iload hc dX1_lay_70 rfl ?_
        obtain ⟨g14, hw⟩ := hw
        refine V.ald hc ak_18 g14 dX1_lay_72 ?_
        refine V.aload_n (t := 1) hc dX1_lay_73 rfl rfl ?_
        refine V.gR hc gR_X1_27 (i' := o) rfl dX1_lay_74 ?_
        refine V.iload hc dX1_lay_77 rfl ?_
        obtain ⟨g15, hw⟩ := hw
        refine V.ald hc ak_18 g15 dX1_lay_79 ?_
        refine V.isub hc dX1_lay_80 ?_
        refine V.imul hc dX1_lay_81 ?_
        refine V.bipush hc dX1_lay_82 (by decide) ?_
        refine V.aload_n (t := 1) hc dX1_lay_84 rfl rfl ?_
        refine V.gR hc gR_X1_30 (i' := o) rfl dX1_lay_85 ?_
        refine V.iload hc dX1_lay_88 rfl ?_
        obtain ⟨g16, hw⟩ := hw
        refine V.ald hc ak_19 g16 dX1_lay_90 ?_
        refine V.aload_n (t := 1) hc dX1_lay_91 rfl rfl ?_
        refine V.gR hc gR_X1_30 (i' := o) rfl dX1_lay_92 ?_
        refine V.iload hc dX1_lay_95 rfl ?_
        obtain ⟨g17, hw⟩ := hw
        refine V.ald hc ak_19 g17 dX1_lay_97 ?_
        refine V.isub hc dX1_lay_98 ?_
        refine V.imul hc dX1_lay_99 ?_
        obtain ⟨q21, hw⟩ := hw
        have kJ27 : ∀ t20 : Int, (((h 15 o a1) * ((h 18 o l7) - (h 18 o l6)) ≤ 100 * ((h 19 o l7) - (h 19 o l6)) → t20 = 0) ∧ (¬ (h 15 o a1) * ((h 18 o l7) - (h 18 o l6)) ≤ 100 * ((h 19 o l7) - (h 19 o l6)) → t20 = 1)) → V G p l e (rmD 8 0) s m args below meth c (MQ below (QV G P) args s 0 0 (va_Aof G)) 9 108 [(11, o), (0, a1), (0, a2), (0, a3), (0, l4), (0, l5), (0, l6), (0, l7), (1, 0)] [(0, t20)] h 0 := by
          intro t20 he
          replace hw := hw t20 he
          clear he
          refine V.istore hc dX1_lay_108 rfl (lo' := [(11, o), (0, a1), (0, a2), (0, a3), (0, l4), (0, l5), (0, l6), (0, l7), (0, t20)]) rfl ?_
          refine V.iload hc dX1_lay_110 rfl ?_
          obtain ⟨q24, hw⟩ := hw
          have kJ25 : ∀ t23 : Int, ((t20 = 0 → t23 = l6) ∧ (¬ t20 = 0 → t23 = l7)) → V G p l e (rmD 8 0) s m args below meth c (MQ below (QV G P) args s 0 0 (va_Aof G)) 9 122 [(11, o), (0, a1), (0, a2), (0, a3), (0, l4), (0, l5), (1, 0), (0, l7), (1, 0)] [(0, t23)] h 0 := by
            intro t23 he
            replace hw := hw t23 he
            clear he
            refine V.istore hc dX1_lay_122 rfl (lo' := [(11, o), (0, a1), (0, a2), (0, a3), (0, l4), (0, l5), (0, t23), (0, l7), (1, 0)]) rfl ?_
            refine V.iinc hc dX1_lay_124 rfl rfl (lo' := [(11, o), (0, a1), (0, a2), (0, a3), (0, l4), (0, l5), (0, t23), (0, l7 + 1), (1, 0)]) rfl ?_
            refine V.goto hc (tgt := 35) dX1_lay_127 (by decide) ?_
            exact ih _ _ hw
          have g22 := q24
          refine V.if_eq hc (tgt := 120) dX1_lay_112 (by decide) g22 (fun c26 => ?_) (fun c26 => ?_)
          · refine V.iload hc dX1_lay_120 rfl ?_
            refine V.drop (lo' := [(11, o), (0, a1), (0, a2), (0, a3), (0, l4), (0, l5), (1, 0), (0, l7), (1, 0)]) ⟨Or.inr rfl, Or.inr rfl, Or.inr rfl, Or.inr rfl, Or.inr rfl, Or.inr rfl, Or.inl rfl, Or.inr rfl, Or.inl rfl, trivial⟩ ?_
            exact kJ25 _ ⟨fun _ => rfl, (fun q => absurd c26 q)⟩
          · refine V.iload hc dX1_lay_115 rfl ?_
            refine V.goto hc (tgt := 122) dX1_lay_117 (by decide) ?_
            refine V.drop (lo' := [(11, o), (0, a1), (0, a2), (0, a3), (0, l4), (0, l5), (1, 0), (0, l7), (1, 0)]) ⟨Or.inr rfl, Or.inr rfl, Or.inr rfl, Or.inr rfl, Or.inr rfl, Or.inr rfl, Or.inl rfl, Or.inr rfl, Or.inl rfl, trivial⟩ ?_
            exact kJ25 _ ⟨(fun q => absurd q c26), fun _ => rfl⟩
        obtain ⟨g18, g19⟩ := q21
        refine V.icmp_le hc (tgt := 107) dX1_lay_100 (by decide) g18 g19 (fun c28 => ?_) (fun c28 => ?_)
        · refine V.iconst hc dX1_lay_107 ?_
          exact kJ27 _ ⟨fun _ => rfl, (fun q => absurd c28 q)⟩
        · refine V.iconst hc dX1_lay_103 ?_
          refine V.goto hc (tgt := 108) dX1_lay_104 (by decide) ?_
          exact kJ27 _ ⟨(fun q => absurd q c28), fun _ => rfl⟩
theorem tX1_lay_298 {G : GG} {p : Program} {l : Launch} {e : Jvm.Env} {s : State} {m : MethodId} {args : Array Value} {below : List Frame} {meth : Method} {c : Code} {P : HP → Prop} (hc : VC G p (rmD 8 0) s m args meth c RX1 cX1_lay 9 8) (hr : meth.sig.returnType = none) {o : Int} {a1 : Int} {a2 : Int} {a3 : Int} {l4 : Int} {l5 : Int} {h : HP} (hw : wX1_lay_298 o a1 a2 a3 l4 l5 P h) : V G p l e (rmD 8 0) s m args below meth c (MQ below (QV G P) args s 0 0 (va_Aof G)) 9 298 [(11, o), (0, a1), (0, a2), (0, a3), (0, l4), (0, l5), (1, 0), (1, 0), (1, 0)] [] h 0 := by
  refine V.iload hc dX1_lay_298 rfl ?_
  refine V.iload hc dX1_lay_300 rfl ?_
  refine V.isub hc dX1_lay_302 ?_
  refine V.bipush hc dX1_lay_303 (by decide) ?_
  obtain ⟨g37, hw⟩ := hw
  refine V.icmp_ge hc (tgt := 327) dX1_lay_305 (by decide) g37 (by omega) (fun c38 => ?_) (fun c38 => ?_)
  · replace hw := hw.1 c38
    refine V.aload_n (t := 1) hc dX1_lay_327 rfl rfl ?_
    refine V.gR hc gR_X1_24 (i' := o) rfl dX1_lay_328 ?_
    refine V.iload_n hc dX1_lay_331 rfl rfl ?_
    refine V.iload hc dX1_lay_332 rfl ?_
    refine V.iload hc dX1_lay_334 rfl ?_
    refine V.isub hc dX1_lay_336 ?_
    obtain ⟨g40, hw⟩ := hw
    refine V.ast hc ak_17 g40 dX1_lay_337 (fun h39 e => ?_)
    replace hw := hw h39 e
    clear e
    exact V.vret hc hr dX1_lay_338 hw
  · replace hw := hw.2 c38
    refine V.aload_n (t := 1) hc dX1_lay_308 rfl rfl ?_
    refine V.gR hc gR_X1_27 (i' := o) rfl dX1_lay_309 ?_
    refine V.iload hc dX1_lay_312 rfl ?_
    refine V.iload_n hc dX1_lay_314 rfl rfl ?_
    obtain ⟨g42, hw⟩ := hw
    refine V.ast hc ak_18 g42 dX1_lay_315 (fun h41 e => ?_)
    replace hw := hw h41 e
    clear e
    refine V.aload_n (t := 1) hc dX1_lay_316 rfl rfl ?_
    refine V.gR hc gR_X1_30 (i' := o) rfl dX1_lay_317 ?_
    refine V.iload hc dX1_lay_320 rfl ?_
    refine V.iload_n hc dX1_lay_322 rfl rfl ?_
    obtain ⟨g44, hw⟩ := hw
    refine V.ast hc ak_19 g44 dX1_lay_323 (fun h43 e => ?_)
    replace hw := hw h43 e
    clear e
    refine V.iinc hc dX1_lay_324 rfl rfl (lo' := [(11, o), (0, a1), (0, a2), (0, a3), (0, l4), (0, l5 + 1), (1, 0), (1, 0), (1, 0)]) rfl ?_
    refine V.aload_n (t := 1) hc dX1_lay_327 rfl rfl ?_
    refine V.gR hc gR_X1_24 (i' := o) rfl dX1_lay_328 ?_
    refine V.iload_n hc dX1_lay_331 rfl rfl ?_
    refine V.iload hc dX1_lay_332 rfl ?_
    refine V.iload hc dX1_lay_334 rfl ?_
    refine V.isub hc dX1_lay_336 ?_
    obtain ⟨g46, hw⟩ := hw
    refine V.ast hc ak_17 g46 dX1_lay_337 (fun h45 e => ?_)
    replace hw := hw h45 e
    clear e
    exact V.vret hc hr dX1_lay_338 hw
theorem tX1_lay_240 {G : GG} {p : Program} {l : Launch} {e : Jvm.Env} {s : State} {m : MethodId} {args : Array Value} {below : List Frame} {meth : Method} {c : Code} {P : HP → Prop} (hc : VC G p (rmD 8 0) s m args meth c RX1 cX1_lay 9 8) (hr : meth.sig.returnType = none) {o : Int} {a1 : Int} {a2 : Int} {a3 : Int} {l4 : Int} {l5 : Int} {h : HP} (hw : wX1_lay_240 o a1 a2 a3 l4 l5 P h) : V G p l e (rmD 8 0) s m args below meth c (MQ below (QV G P) args s 0 0 (va_Aof G)) 9 240 [(11, o), (0, a1), (0, a2), (0, a3), (0, l4), (0, l5), (1, 0), (1, 0), (1, 0)] [] h 0 := by
  refine V.iload hc dX1_lay_240 rfl ?_
  refine V.iload hc dX1_lay_242 rfl ?_
  obtain ⟨g34, hw⟩ := hw
  obtain ⟨g35, hw⟩ := hw
  refine V.icmp_le hc (tgt := 298) dX1_lay_244 (by decide) g34 g35 (fun c36 => ?_) (fun c36 => ?_)
  · replace hw := hw.1 c36
    exact tX1_lay_298 hc hr  hw
  · replace hw := hw.2 c36
    refine V.aload_n (t := 1) hc dX1_lay_247 rfl rfl ?_
    refine V.gR hc gR_X1_30 (i' := o) rfl dX1_lay_248 ?_
    refine V.iload hc dX1_lay_251 rfl ?_
    refine V.iconst hc dX1_lay_253 ?_
    refine V.isub hc dX1_lay_254 ?_
    obtain ⟨g47, hw⟩ := hw
    refine V.ald hc ak_19 g47 dX1_lay_255 ?_
    refine V.iload_n hc dX1_lay_256 rfl rfl ?_
    obtain ⟨g48, hw⟩ := hw
    obtain ⟨g49, hw⟩ := hw
    refine V.icmp_ne hc (tgt := 298) dX1_lay_257 (by decide) g48 g49 (fun c50 => ?_) (fun c50 => ?_)
    · replace hw := hw.1 c50
      exact tX1_lay_298 hc hr  hw
    · replace hw := hw.2 c50
      refine V.aload_n (t := 1) hc dX1_lay_260 rfl rfl ?_
      refine V.gR hc gR_X1_27 (i' := o) rfl dX1_lay_261 ?_
      refine V.iload hc dX1_lay_264 rfl ?_
      refine V.iconst hc dX1_lay_266 ?_
      refine V.isub hc dX1_lay_267 ?_
      refine V.iload_n hc dX1_lay_268 rfl rfl ?_
      refine V.aload_n (t := 1) hc dX1_lay_269 rfl rfl ?_
      refine V.gR hc gR_X1_27 (i' := o) rfl dX1_lay_270 ?_
      refine V.iload hc dX1_lay_273 rfl ?_
      refine V.iconst hc dX1_lay_275 ?_
      refine V.isub hc dX1_lay_276 ?_
      obtain ⟨g51, hw⟩ := hw
      refine V.ald hc ak_18 g51 dX1_lay_277 ?_
      obtain ⟨q56, hw⟩ := hw
      have kJ61 : ∀ t55 : Int, ((a2 ≤ h 18 o (l5 - 1) → t55 = h 18 o (l5 - 1)) ∧ (¬ a2 ≤ h 18 o (l5 - 1) → t55 = a2)) → V G p l e (rmD 8 0) s m args below meth c (MQ below (QV G P) args s 0 0 (va_Aof G)) 9 294 [(11, o), (0, a1), (1, 0), (1, 0), (0, l4), (0, l5), (1, 0), (1, 0), (1, 0)] [(0, t55), (0, l5 - 1), (28, o)] h 0 := by
        intro t55 he
        replace hw := hw t55 he
        clear he
        obtain ⟨g58, hw⟩ := hw
        refine V.ast hc ak_18 g58 dX1_lay_294 (fun h57 e => ?_)
        replace hw := hw h57 e
        clear e
        refine V.goto hc (tgt := 327) dX1_lay_295 (by decide) ?_
        refine V.aload_n (t := 1) hc dX1_lay_327 rfl rfl ?_
        refine V.gR hc gR_X1_24 (i' := o) rfl dX1_lay_328 ?_
        refine V.iload_n hc dX1_lay_331 rfl rfl ?_
        refine V.iload hc dX1_lay_332 rfl ?_
        refine V.iload hc dX1_lay_334 rfl ?_
        refine V.isub hc dX1_lay_336 ?_
        obtain ⟨g60, hw⟩ := hw
        refine V.ast hc ak_17 g60 dX1_lay_337 (fun h59 e => ?_)
        replace hw := hw h59 e
        clear e
        exact V.vret hc hr dX1_lay_338 hw
      obtain ⟨g52, g53, q62⟩ := q56
      refine V.icmp_le hc (tgt := 285) dX1_lay_278 (by decide) g52 g53 (fun c63 => ?_) (fun c63 => ?_)
      · have q64 := q62 c63
        have g54 := q64
        refine V.aload_n (t := 1) hc dX1_lay_285 rfl rfl ?_
        refine V.gR hc gR_X1_27 (i' := o) rfl dX1_lay_286 ?_
        refine V.iload hc dX1_lay_289 rfl ?_
        refine V.iconst hc dX1_lay_291 ?_
        refine V.isub hc dX1_lay_292 ?_
        refine V.ald hc ak_18 g54 dX1_lay_293 ?_
        refine V.drop (lo' := [(11, o), (0, a1), (1, 0), (1, 0), (0, l4), (0, l5), (1, 0), (1, 0), (1, 0)]) ⟨Or.inr rfl, Or.inr rfl, Or.inl rfl, Or.inl rfl, Or.inr rfl, Or.inr rfl, Or.inr rfl, Or.inr rfl, Or.inr rfl, trivial⟩ ?_
        exact kJ61 _ ⟨fun _ => rfl, (fun q => absurd c63 q)⟩
      · refine V.iload_n hc dX1_lay_281 rfl rfl ?_
        refine V.goto hc (tgt := 294) dX1_lay_282 (by decide) ?_
        refine V.drop (lo' := [(11, o), (0, a1), (1, 0), (1, 0), (0, l4), (0, l5), (1, 0), (1, 0), (1, 0)]) ⟨Or.inr rfl, Or.inr rfl, Or.inl rfl, Or.inl rfl, Or.inr rfl, Or.inr rfl, Or.inr rfl, Or.inr rfl, Or.inr rfl, trivial⟩ ?_
        exact kJ61 _ ⟨(fun q => absurd q c63), fun _ => rfl⟩
theorem tX1_lay_171 {G : GG} {p : Program} {l : Launch} {e : Jvm.Env} {s : State} {m : MethodId} {args : Array Value} {below : List Frame} {meth : Method} {c : Code} {P : HP → Prop} (hc : VC G p (rmD 8 0) s m args meth c RX1 cX1_lay 9 8) (hr : meth.sig.returnType = none) {o : Int} {a1 : Int} {a2 : Int} {a3 : Int} {l4 : Int} {l5 : Int} {l7 : Int} {K228 : HP → Prop} (hK228 : ∀  (h : HP), K228  h → V G p l e (rmD 8 0) s m args below meth c (MQ below (QV G P) args s 0 0 (va_Aof G)) 9 228 [(11, o), (0, a1), (0, a2), (0, a3), (0, l4), (0, l5), (1, 0), (0, l7), (1, 0)] [] h 0) : ∀ (f : Nat) (l8 : Int) (h : HP), wX1_lay_171 o a1 a2 a3 l4 l5 l7 K228 f l8 h → V G p l e (rmD 8 0) s m args below meth c (MQ below (QV G P) args s 0 0 (va_Aof G)) 9 171 [(11, o), (0, a1), (0, a2), (0, a3), (0, l4), (0, l5), (1, 0), (0, l7), (0, l8)] [] h 0 := by
  intro f
  induction f with
  | zero =>
    intro l8 h hw
    exact hw.elim
  | succ f ih =>
    intro l8 h hw
    refine V.iload hc dX1_lay_171 rfl ?_
    refine V.iload hc dX1_lay_173 rfl ?_
    obtain ⟨g71, hw⟩ := hw
    obtain ⟨g72, hw⟩ := hw
    refine V.icmp_ge hc (tgt := 228) dX1_lay_175 (by decide) g71 g72 (fun c73 => ?_) (fun c73 => ?_)
    · replace hw := hw.1 c73
      refine V.drop (lo' := [(11, o), (0, a1), (0, a2), (0, a3), (0, l4), (0, l5), (1, 0), (0, l7), (1, 0)]) ⟨Or.inr rfl, Or.inr rfl, Or.inr rfl, Or.inr rfl, Or.inr rfl, Or.inr rfl, Or.inr rfl, Or.inr rfl, Or.inl rfl, trivial⟩ ?_
      exact hK228 _ hw
    · replace hw := hw.2 c73
      refine V.aload_n (t := 1) hc dX1_lay_178 rfl rfl ?_
      refine V.gR hc gR_X1_27 (i' := o) rfl dX1_lay_179 ?_
      refine V.iload hc dX1_lay_182 rfl ?_
      refine V.iconst hc dX1_lay_184 ?_
      refine V.iadd hc dX1_lay_185 ?_
      refine V.iload hc dX1_lay_186 rfl ?_
      refine V.iadd hc dX1_lay_188 ?_
      refine V.iload hc dX1_lay_189 rfl ?_
      refine V.isub hc dX1_lay_191 ?_
      refine V.aload_n (t := 1) hc dX1_lay_192 rfl rfl ?_
      refine V.gR hc gR_X1_27 (i' := o) rfl dX1_lay_193 ?_
      refine V.iload hc dX1_lay_196 rfl ?_
      obtain ⟨g74, hw⟩ := hw
      refine V.ald hc ak_18 g74 dX1_lay_198 ?_
      obtain ⟨g76, hw⟩ := hw
      refine V.ast hc ak_18 g76 dX1_lay_199 (fun h75 e => ?_)
      replace hw := hw h75 e
      clear e
      refine V.aload_n (t := 1) hc dX1_lay_200 rfl rfl ?_
      refine V.gR hc gR_X1_30 (i' := o) rfl dX1_lay_201 ?_
      refine V.iload hc dX1_lay_204 rfl ?_
      refine V.iconst hc dX1_lay_206 ?_
      refine V.iadd hc dX1_lay_207 ?_
      refine V.iload hc dX1_lay_208 rfl ?_
      refine V.iadd hc dX1_lay_210 ?_
      refine V.iload hc dX1_lay_211 rfl ?_
      refine V.isub hc dX1_lay_213 ?_
      refine V.aload_n (t := 1) hc dX1_lay_214 rfl rfl ?_
      refine V.gR hc gR_X1_30 (i' := o) rfl dX1_lay_215 ?_
      refine V.iload hc dX1_lay_218 rfl ?_
      obtain ⟨g77, hw⟩ := hw
      refine V.ald hc ak_19 g77 dX1_lay_220 ?_
      obtain ⟨g79, hw⟩ := hw
      refine V.ast hc ak_19 g79 dX1_lay_221 (fun h78 e => ?_)
      replace hw := hw h78 e
      clear e
      refine V.iinc hc dX1_lay_222 rfl rfl (lo' := [(11, o), (0, a1), (0, a2), (0, a3), (0, l4), (0, l5), (1, 0), (0, l7), (0, l8 + 1)]) rfl ?_
      refine V.goto hc (tgt := 171) dX1_lay_225 (by decide) ?_
      exact ih _ _ hw
theorem qX1_lay (G : GG) (l : Launch) (o : Int) (a1 : Int) (a2 : Int) (a3 : Int) (h : HP) (P : HP → Prop) (hw : wX1_lay o a1 a2 a3 h P) : CnV l G yX1_lay cX1_lay 9 8 [(11, o), (0, a1), (0, a2), (0, a3)] h P := by
  refine CnV.of (lo := [(11, o), (0, a1), (0, a2), (0, a3), (1, 0), (1, 0), (1, 0), (1, 0), (1, 0)]) (by decide) rfl rfl rfl ?_
  intro p e s m args below meth c hc hr
  have hc : VC G p (rmD 8 0) s m args meth c RX1 cX1_lay 9 8 := hc
  refine V.aload_n (t := 1) hc dX1_lay_0 rfl rfl ?_
  refine V.gR hc gR_X1_18 (i' := o) rfl dX1_lay_1 ?_
  refine V.iload_n hc dX1_lay_4 rfl rfl ?_
  obtain ⟨g1, hw⟩ := hw
  refine V.ald hc ak_15 g1 dX1_lay_5 ?_
  obtain ⟨g2, hw⟩ := hw
  refine V.if_ne hc (tgt := 10) dX1_lay_6 (by decide) g2 (fun c3 => ?_) (fun c3 => ?_)
  · replace hw := hw.1 c3
    refine V.iload_n hc dX1_lay_10 rfl rfl ?_
    refine V.bipush hc dX1_lay_11 (by decide) ?_
    refine V.imul hc dX1_lay_13 ?_
    refine V.istore hc dX1_lay_14 rfl (lo' := [(11, o), (0, a1), (0, a2), (0, a3), (0, a1 * 32), (1, 0), (1, 0), (1, 0), (1, 0)]) rfl ?_
    refine V.iload hc dX1_lay_16 rfl ?_
    refine V.aload_n (t := 1) hc dX1_lay_18 rfl rfl ?_
    refine V.gR hc gR_X1_24 (i' := o) rfl dX1_lay_19 ?_
    refine V.iload_n hc dX1_lay_22 rfl rfl ?_
    obtain ⟨g4, hw⟩ := hw
    refine V.ald hc ak_17 g4 dX1_lay_23 ?_
    refine V.iadd hc dX1_lay_24 ?_
    refine V.istore hc dX1_lay_25 rfl (lo' := [(11, o), (0, a1), (0, a2), (0, a3), (0, a1 * 32), (0, (a1 * 32) + (h 17 o a1)), (1, 0), (1, 0), (1, 0)]) rfl ?_
    refine V.iload hc dX1_lay_27 rfl ?_
    refine V.istore hc dX1_lay_29 rfl (lo' := [(11, o), (0, a1), (0, a2), (0, a3), (0, a1 * 32), (0, (a1 * 32) + (h 17 o a1)), (0, a1 * 32), (1, 0), (1, 0)]) rfl ?_
    refine V.iload hc dX1_lay_31 rfl ?_
    refine V.istore hc dX1_lay_33 rfl (lo' := [(11, o), (0, a1), (0, a2), (0, a3), (0, a1 * 32), (0, (a1 * 32) + (h 17 o a1)), (0, a1 * 32), (0, a1 * 32), (1, 0)]) rfl ?_
    obtain ⟨f29, hw⟩ := hw
    refine tX1_lay_35 hc hr ?_ f29 _ _ hw
    · intro l30 l31 hw
      refine V.iload hc dX1_lay_130 rfl ?_
      refine V.iload hc dX1_lay_132 rfl ?_
      refine V.isub hc dX1_lay_134 ?_
      refine V.iconst hc dX1_lay_135 ?_
      obtain ⟨g32, hw⟩ := hw
      refine V.icmp_le hc (tgt := 240) dX1_lay_136 (by decide) g32 (by omega) (fun c33 => ?_) (fun c33 => ?_)
      · replace hw := hw.1 c33
        refine V.drop (lo' := [(11, o), (0, a1), (0, a2), (0, a3), (0, a1 * 32), (0, (a1 * 32) + (h 17 o a1)), (1, 0), (1, 0), (1, 0)]) ⟨Or.inr rfl, Or.inr rfl, Or.inr rfl, Or.inr rfl, Or.inr rfl, Or.inr rfl, Or.inl rfl, Or.inl rfl, Or.inr rfl, trivial⟩ ?_
        exact tX1_lay_240 hc hr  hw
      · replace hw := hw.2 c33
        refine V.aload_n (t := 1) hc dX1_lay_139 rfl rfl ?_
        refine V.gR hc gR_X1_27 (i' := o) rfl dX1_lay_140 ?_
        refine V.iload hc dX1_lay_143 rfl ?_
        refine V.aload_n (t := 1) hc dX1_lay_145 rfl rfl ?_
        refine V.gR hc gR_X1_27 (i' := o) rfl dX1_lay_146 ?_
        refine V.iload hc dX1_lay_149 rfl ?_
        obtain ⟨g65, hw⟩ := hw
        refine V.ald hc ak_18 g65 dX1_lay_151 ?_
        obtain ⟨g67, hw⟩ := hw
        refine V.ast hc ak_18 g67 dX1_lay_152 (fun h66 e => ?_)
        replace hw := hw h66 e
        clear e
        refine V.aload_n (t := 1) hc dX1_lay_153 rfl rfl ?_
        refine V.gR hc gR_X1_30 (i' := o) rfl dX1_lay_154 ?_
        refine V.iload hc dX1_lay_157 rfl ?_
        refine V.aload_n (t := 1) hc dX1_lay_159 rfl rfl ?_
        refine V.gR hc gR_X1_30 (i' := o) rfl dX1_lay_160 ?_
        refine V.iload hc dX1_lay_163 rfl ?_
        obtain ⟨g68, hw⟩ := hw
        refine V.ald hc ak_19 g68 dX1_lay_165 ?_
        obtain ⟨g70, hw⟩ := hw
        refine V.ast hc ak_19 g70 dX1_lay_166 (fun h69 e => ?_)
        replace hw := hw h69 e
        clear e
        refine V.iload hc dX1_lay_167 rfl ?_
        refine V.istore hc dX1_lay_169 rfl (lo' := [(11, o), (0, a1), (0, a2), (0, a3), (0, a1 * 32), (0, (a1 * 32) + (h 17 o a1)), (0, l30), (0, l31), (0, l31)]) rfl ?_
        obtain ⟨f80, hw⟩ := hw
        refine V.drop (lo' := [(11, o), (0, a1), (0, a2), (0, a3), (0, a1 * 32), (0, (a1 * 32) + (h 17 o a1)), (1, 0), (0, l31), (0, l31)]) ⟨Or.inr rfl, Or.inr rfl, Or.inr rfl, Or.inr rfl, Or.inr rfl, Or.inr rfl, Or.inl rfl, Or.inr rfl, Or.inr rfl, trivial⟩ ?_
        refine tX1_lay_171 hc hr ?_ f80 _ _ hw
        · intro h81 hw
          refine V.iload hc dX1_lay_228 rfl ?_
          refine V.iload hc dX1_lay_230 rfl ?_
          refine V.iload hc dX1_lay_232 rfl ?_
          refine V.isub hc dX1_lay_234 ?_
          refine V.iconst hc dX1_lay_235 ?_
          refine V.isub hc dX1_lay_236 ?_
          refine V.isub hc dX1_lay_237 ?_
          refine V.istore hc dX1_lay_238 rfl (lo' := [(11, o), (0, a1), (0, a2), (0, a3), (0, a1 * 32), (0, ((a1 * 32) + (h 17 o a1)) - ((l31 - (a1 * 32)) - 1)), (1, 0), (0, l31), (1, 0)]) rfl ?_
          refine V.drop (lo' := [(11, o), (0, a1), (0, a2), (0, a3), (0, a1 * 32), (0, ((a1 * 32) + (h 17 o a1)) - ((l31 - (a1 * 32)) - 1)), (1, 0), (1, 0), (1, 0)]) ⟨Or.inr rfl, Or.inr rfl, Or.inr rfl, Or.inr rfl, Or.inr rfl, Or.inr rfl, Or.inr rfl, Or.inl rfl, Or.inr rfl, trivial⟩ ?_
          exact tX1_lay_240 hc hr  hw
  · replace hw := hw.2 c3
    exact V.vret hc hr dX1_lay_9 hw
def wX1_has (o : Int) (a1 : Int) (h : HP) (P : Int → HP → Prop) : Prop := (0 ≤ a1 ∧ a1 < 36) ∧ (-2147483648 ≤ h 15 o a1 ∧ h 15 o a1 < 2147483648) ∧ ∀ t3 : Int, ((h 15 o a1 ≤ 0 → t3 = 0) ∧ (¬ h 15 o a1 ≤ 0 → t3 = 1)) → (t3 = 0 ∨ t3 = 1) ∧ P t3 h
theorem qX1_has (G : GG) (l : Launch) (o : Int) (a1 : Int) (h : HP) (P : Int → HP → Prop) (hw : wX1_has o a1 h P) : CnI l G yX1_has cX1_has 2 (some .boolean) 8 [(11, o), (0, a1)] h P := by
  refine CnI.of (lo := [(11, o), (0, a1)]) (by decide) rfl rfl rfl ?_
  intro p e s m args below meth c hc hr
  have hc : VC G p (rmD 8 0) s m args meth c RX1 cX1_has 2 8 := hc
  refine V.aload_n (t := 1) hc dX1_has_0 rfl rfl ?_
  refine V.gR hc gR_X1_18 (i' := o) rfl dX1_has_1 ?_
  refine V.iload_n hc dX1_has_4 rfl rfl ?_
  obtain ⟨g1, hw⟩ := hw
  refine V.ald hc ak_15 g1 dX1_has_5 ?_
  obtain ⟨q4, hw⟩ := hw
  have kJ6 : ∀ t3 : Int, ((h 15 o a1 ≤ 0 → t3 = 0) ∧ (¬ h 15 o a1 ≤ 0 → t3 = 1)) → V G p l e (rmD 8 0) s m args below meth c (MQ below (QI G P) args s 0 0 (va_Aof G)) 2 14 [(1, 0), (1, 0)] [(0, t3)] h 0 := by
    intro t3 he
    replace hw := hw t3 he
    clear he
    obtain ⟨g5, hw⟩ := hw
    exact V.zret hc hr dX1_has_14 g5 hw
  have g2 := q4
  refine V.if_le hc (tgt := 13) dX1_has_6 (by decide) g2 (fun c7 => ?_) (fun c7 => ?_)
  · refine V.iconst hc dX1_has_13 ?_
    refine V.drop (lo' := [(1, 0), (1, 0)]) ⟨Or.inl rfl, Or.inl rfl, trivial⟩ ?_
    exact kJ6 _ ⟨fun _ => rfl, (fun q => absurd c7 q)⟩
  · refine V.iconst hc dX1_has_9 ?_
    refine V.goto hc (tgt := 14) dX1_has_10 (by decide) ?_
    refine V.drop (lo' := [(1, 0), (1, 0)]) ⟨Or.inl rfl, Or.inl rfl, trivial⟩ ?_
    exact kJ6 _ ⟨(fun q => absurd q c7), fun _ => rfl⟩
def wX1_reached_31 (o : Int) (a1 : Int) (a2 : Int) (a3 : Int) (l4 : Int) (l5 : Int) (l7 : Int) (h : HP) (K152 : Int → Prop) : Nat → Int → Int → Prop
  | 0, _, _ => False
  | f + 1, l6, l8 => (0 ≤ a1 ∧ a1 < 36) ∧ (-2147483648 ≤ l8 ∧ l8 < 2147483648) ∧ (-2147483648 ≤ l7 + (h 17 o a1) ∧ l7 + (h 17 o a1) < 2147483648) ∧ ((l7 + (h 17 o a1) ≤ l8 → K152 l6) ∧ (¬ l7 + (h 17 o a1) ≤ l8 → (0 ≤ l8 ∧ l8 < 1152) ∧ (0 ≤ l8 ∧ l8 < 1152) ∧ ((-2147483648 ≤ 100 * (a2 - (h 19 o l8)) ∧ 100 * (a2 - (h 19 o l8)) < 2147483648) ∧ (-2147483648 ≤ l5 ∧ l5 < 2147483648) ∧ (100 * (a2 - (h 19 o l8)) ≤ l5 → ((-2147483648 ≤ 100 * (a2 - (h 19 o l8)) ∧ 100 * (a2 - (h 19 o l8)) < 2147483648) ∧ (¬ 100 * (a2 - (h 19 o l8)) ≤ 0 → ((-2147483648 ≤ a3 ∧ a3 < 2147483648) ∧ (¬ a3 ≤ 0 → ((0 ≤ ((100 * (a2 - (h 19 o l8))) + a3) - 1 ∧ ((100 * (a2 - (h 19 o l8))) + a3) - 1 < 2147483648) ∧ (0 < a3 ∧ a3 < 2147483648))))))) ∧ (¬ 100 * (a2 - (h 19 o l8)) ≤ l5 → ((-2147483648 ≤ l4 ∧ l4 < 2147483648) ∧ (l4 ≤ 0 → ((-2147483648 ≤ 100 * (a2 - (h 19 o l8)) ∧ 100 * (a2 - (h 19 o l8)) < 2147483648) ∧ (¬ 100 * (a2 - (h 19 o l8)) ≤ 0 → ((-2147483648 ≤ a3 ∧ a3 < 2147483648) ∧ (¬ a3 ≤ 0 → ((0 ≤ ((100 * (a2 - (h 19 o l8))) + a3) - 1 ∧ ((100 * (a2 - (h 19 o l8))) + a3) - 1 < 2147483648) ∧ (0 < a3 ∧ a3 < 2147483648))))))) ∧ (¬ l4 ≤ 0 → ((0 ≤ a1 ∧ a1 < 36) ∧ (0 ≤ (((100 * (a2 - (h 19 o l8))) - l5) + l4) - 1 ∧ (((100 * (a2 - (h 19 o l8))) - l5) + l4) - 1 < 2147483648) ∧ (0 < l4 ∧ l4 < 2147483648)))))) ∧ ∀ t23 : Int, ((100 * (a2 - (h 19 o l8)) ≤ l5 → ((100 * (a2 - (h 19 o l8)) ≤ 0 → t23 = h 18 o l8) ∧ (¬ 100 * (a2 - (h 19 o l8)) ≤ 0 → ((a3 ≤ 0 → t23 = h 18 o l8) ∧ (¬ a3 ≤ 0 → t23 = (h 18 o l8) + ((((100 * (a2 - (h 19 o l8))) + a3) - 1) / a3)))))) ∧ (¬ 100 * (a2 - (h 19 o l8)) ≤ l5 → ((l4 ≤ 0 → ((100 * (a2 - (h 19 o l8)) ≤ 0 → t23 = h 18 o l8) ∧ (¬ 100 * (a2 - (h 19 o l8)) ≤ 0 → ((a3 ≤ 0 → t23 = h 18 o l8) ∧ (¬ a3 ≤ 0 → t23 = (h 18 o l8) + ((((100 * (a2 - (h 19 o l8))) + a3) - 1) / a3)))))) ∧ (¬ l4 ≤ 0 → t23 = (h 18 o l8) + ((h 14 o a1) + (((((100 * (a2 - (h 19 o l8))) - l5) + l4) - 1) / l4)))))) → ((-2147483648 ≤ t23 ∧ t23 < 2147483648) ∧ (-2147483648 ≤ l6 ∧ l6 < 2147483648)) ∧ ∀ t27 : Int, ((t23 ≤ l6 → t27 = l6) ∧ (¬ t23 ≤ l6 → t27 = t23)) → wX1_reached_31 o a1 a2 a3 l4 l5 l7 h K152 f t27 (l8 + 1)))
def wX1_reached (o : Int) (a1 : Int) (a2 : Int) (a3 : Int) (h : HP) (P : Int → HP → Prop) : Prop := (0 ≤ a1 ∧ a1 < 36) ∧ (0 ≤ a1 ∧ a1 < 36) ∧ (∃ f54 : Nat, wX1_reached_31 o a1 a2 a3 (h 15 o a1) (a3 * (h 14 o a1)) (a1 * 32) h (fun l55 => P l55 h) f54 0 (a1 * 32))
theorem tX1_reached_31 {G : GG} {p : Program} {l : Launch} {e : Jvm.Env} {s : State} {m : MethodId} {args : Array Value} {below : List Frame} {meth : Method} {c : Code} {P : Int → HP → Prop} (hc : VC G p (rmD 8 0) s m args meth c RX1 cX1_reached 11 8) (hr : meth.sig.returnType = some .int) {o : Int} {a1 : Int} {a2 : Int} {a3 : Int} {l4 : Int} {l5 : Int} {l7 : Int} {h : HP} {K152 : Int → Prop} (hK152 : ∀ (x6 : Int), K152 x6 → V G p l e (rmD 8 0) s m args below meth c (MQ below (QI G P) args s 0 0 (va_Aof G)) 11 152 [(1, 0), (1, 0), (1, 0), (1, 0), (1, 0), (1, 0), (0, x6), (1, 0), (1, 0), (1, 0), (1, 0)] [] h 0) : ∀ (f : Nat) (l6 : Int) (l8 : Int), wX1_reached_31 o a1 a2 a3 l4 l5 l7 h K152 f l6 l8 → V G p l e (rmD 8 0) s m args below meth c (MQ below (QI G P) args s 0 0 (va_Aof G)) 11 31 [(11, o), (0, a1), (0, a2), (0, a3), (0, l4), (0, l5), (0, l6), (0, l7), (0, l8), (1, 0), (1, 0)] [] h 0 := by
  intro f
  induction f with
  | zero =>
    intro l6 l8 hw
    exact hw.elim
  | succ f ih =>
    intro l6 l8 hw
    refine V.iload hc dX1_reached_31 rfl ?_
    refine V.iload hc dX1_reached_33 rfl ?_
    refine V.aload_n (t := 1) hc dX1_reached_35 rfl rfl ?_
    refine V.gR hc gR_X1_24 (i' := o) rfl dX1_reached_36 ?_
    refine V.iload_n hc dX1_reached_39 rfl rfl ?_
    obtain ⟨g3, hw⟩ := hw
    refine V.ald hc ak_17 g3 dX1_reached_40 ?_
    refine V.iadd hc dX1_reached_41 ?_
    obtain ⟨g4, hw⟩ := hw
    obtain ⟨g5, hw⟩ := hw
    refine V.icmp_ge hc (tgt := 152) dX1_reached_42 (by decide) g4 g5 (fun c6 => ?_) (fun c6 => ?_)
    · replace hw := hw.1 c6
      refine V.drop (lo' := [(1, 0), (1, 0), (1, 0), (1, 0), (1, 0), (1, 0), (0, l6), (1, 0), (1, 0), (1, 0), (1, 0)]) ⟨Or.inl rfl, Or.inl rfl, Or.inl rfl, Or.inl rfl, Or.inl rfl, Or.inl rfl, Or.inr rfl, Or.inl rfl, Or.inl rfl, Or.inr rfl, Or.inr rfl, trivial⟩ ?_
      exact hK152 _ hw
    · replace hw := hw.2 c6
      refine V.bipush hc dX1_reached_45 (by decide) ?_
      refine V.iload_n hc dX1_reached_47 rfl rfl ?_
      refine V.aload_n (t := 1) hc dX1_reached_48 rfl rfl ?_
      refine V.gR hc gR_X1_30 (i' := o) rfl dX1_reached_49 ?_
      refine V.iload hc dX1_reached_52 rfl ?_
      obtain ⟨g7, hw⟩ := hw
      refine V.ald hc ak_19 g7 dX1_reached_54 ?_
      refine V.isub hc dX1_reached_55 ?_
      refine V.imul hc dX1_reached_56 ?_
      refine V.istore hc dX1_reached_57 rfl (lo' := [(11, o), (0, a1), (0, a2), (0, a3), (0, l4), (0, l5), (0, l6), (0, l7), (0, l8), (0, 100 * (a2 - (h 19 o l8))), (1, 0)]) rfl ?_
      refine V.aload_n (t := 1) hc dX1_reached_59 rfl rfl ?_
      refine V.gR hc gR_X1_27 (i' := o) rfl dX1_reached_60 ?_
      refine V.iload hc dX1_reached_63 rfl ?_
      obtain ⟨g8, hw⟩ := hw
      refine V.ald hc ak_18 g8 dX1_reached_65 ?_
      refine V.istore hc dX1_reached_66 rfl (lo' := [(11, o), (0, a1), (0, a2), (0, a3), (0, l4), (0, l5), (0, l6), (0, l7), (0, l8), (0, 100 * (a2 - (h 19 o l8))), (0, h 18 o l8)]) rfl ?_
      refine V.iload hc dX1_reached_68 rfl ?_
      refine V.iload hc dX1_reached_70 rfl ?_
      obtain ⟨q24, hw⟩ := hw
      have kJ31 : ∀ t23 : Int, ((100 * (a2 - (h 19 o l8)) ≤ l5 → ((100 * (a2 - (h 19 o l8)) ≤ 0 → t23 = h 18 o l8) ∧ (¬ 100 * (a2 - (h 19 o l8)) ≤ 0 → ((a3 ≤ 0 → t23 = h 18 o l8) ∧ (¬ a3 ≤ 0 → t23 = (h 18 o l8) + ((((100 * (a2 - (h 19 o l8))) + a3) - 1) / a3)))))) ∧ (¬ 100 * (a2 - (h 19 o l8)) ≤ l5 → ((l4 ≤ 0 → ((100 * (a2 - (h 19 o l8)) ≤ 0 → t23 = h 18 o l8) ∧ (¬ 100 * (a2 - (h 19 o l8)) ≤ 0 → ((a3 ≤ 0 → t23 = h 18 o l8) ∧ (¬ a3 ≤ 0 → t23 = (h 18 o l8) + ((((100 * (a2 - (h 19 o l8))) + a3) - 1) / a3)))))) ∧ (¬ l4 ≤ 0 → t23 = (h 18 o l8) + ((h 14 o a1) + (((((100 * (a2 - (h 19 o l8))) - l5) + l4) - 1) / l4)))))) → V G p l e (rmD 8 0) s m args below meth c (MQ below (QI G P) args s 0 0 (va_Aof G)) 11 130 [(11, o), (0, a1), (0, a2), (0, a3), (0, l4), (0, l5), (0, l6), (0, l7), (0, l8), (1, 0), (0, t23)] [] h 0 := by
        intro t23 he
        replace hw := hw t23 he
        clear he
        refine V.iload hc dX1_reached_130 rfl ?_
        refine V.iload hc dX1_reached_132 rfl ?_
        obtain ⟨q28, hw⟩ := hw
        have kJ29 : ∀ t27 : Int, ((t23 ≤ l6 → t27 = l6) ∧ (¬ t23 ≤ l6 → t27 = t23)) → V G p l e (rmD 8 0) s m args below meth c (MQ below (QI G P) args s 0 0 (va_Aof G)) 11 144 [(11, o), (0, a1), (0, a2), (0, a3), (0, l4), (0, l5), (1, 0), (0, l7), (0, l8), (1, 0), (1, 0)] [(0, t27)] h 0 := by
          intro t27 he
          replace hw := hw t27 he
          clear he
          refine V.istore hc dX1_reached_144 rfl (lo' := [(11, o), (0, a1), (0, a2), (0, a3), (0, l4), (0, l5), (0, t27), (0, l7), (0, l8), (1, 0), (1, 0)]) rfl ?_
          refine V.iinc hc dX1_reached_146 rfl rfl (lo' := [(11, o), (0, a1), (0, a2), (0, a3), (0, l4), (0, l5), (0, t27), (0, l7), (0, l8 + 1), (1, 0), (1, 0)]) rfl ?_
          refine V.goto hc (tgt := 31) dX1_reached_149 (by decide) ?_
          exact ih _ _ hw
        obtain ⟨g25, g26⟩ := q28
        refine V.icmp_le hc (tgt := 142) dX1_reached_134 (by decide) g25 g26 (fun c30 => ?_) (fun c30 => ?_)
        · refine V.iload hc dX1_reached_142 rfl ?_
          refine V.drop (lo' := [(11, o), (0, a1), (0, a2), (0, a3), (0, l4), (0, l5), (1, 0), (0, l7), (0, l8), (1, 0), (1, 0)]) ⟨Or.inr rfl, Or.inr rfl, Or.inr rfl, Or.inr rfl, Or.inr rfl, Or.inr rfl, Or.inl rfl, Or.inr rfl, Or.inr rfl, Or.inr rfl, Or.inl rfl, trivial⟩ ?_
          exact kJ29 _ ⟨fun _ => rfl, (fun q => absurd c30 q)⟩
        · refine V.iload hc dX1_reached_137 rfl ?_
          refine V.goto hc (tgt := 144) dX1_reached_139 (by decide) ?_
          refine V.drop (lo' := [(11, o), (0, a1), (0, a2), (0, a3), (0, l4), (0, l5), (1, 0), (0, l7), (0, l8), (1, 0), (1, 0)]) ⟨Or.inr rfl, Or.inr rfl, Or.inr rfl, Or.inr rfl, Or.inr rfl, Or.inr rfl, Or.inl rfl, Or.inr rfl, Or.inr rfl, Or.inr rfl, Or.inl rfl, trivial⟩ ?_
          exact kJ29 _ ⟨(fun q => absurd q c30), fun _ => rfl⟩
      obtain ⟨g9, g10, q32, q33⟩ := q24
      refine V.icmp_le hc (tgt := 108) dX1_reached_72 (by decide) g9 g10 (fun c34 => ?_) (fun c34 => ?_)
      · have q35 := q32 c34
        obtain ⟨g11, q36⟩ := q35
        refine V.iload hc dX1_reached_108 rfl ?_
        refine V.if_le hc (tgt := 130) dX1_reached_110 (by decide) g11 (fun c37 => ?_) (fun c37 => ?_)
        · refine V.drop (lo' := [(11, o), (0, a1), (0, a2), (0, a3), (0, l4), (0, l5), (0, l6), (0, l7), (0, l8), (1, 0), (0, h 18 o l8)]) ⟨Or.inr rfl, Or.inr rfl, Or.inr rfl, Or.inr rfl, Or.inr rfl, Or.inr rfl, Or.inr rfl, Or.inr rfl, Or.inr rfl, Or.inl rfl, Or.inr rfl, trivial⟩ ?_
          exact kJ31 _ ⟨fun _ => ⟨fun _ => rfl, (fun q => absurd c37 q)⟩, (fun q => absurd c34 q)⟩
        · have q38 := q36 c37
          obtain ⟨g12, q39⟩ := q38
          refine V.iload_n hc dX1_reached_113 rfl rfl ?_
          refine V.if_le hc (tgt := 130) dX1_reached_114 (by decide) g12 (fun c40 => ?_) (fun c40 => ?_)
          · refine V.drop (lo' := [(11, o), (0, a1), (0, a2), (0, a3), (0, l4), (0, l5), (0, l6), (0, l7), (0, l8), (1, 0), (0, h 18 o l8)]) ⟨Or.inr rfl, Or.inr rfl, Or.inr rfl, Or.inr rfl, Or.inr rfl, Or.inr rfl, Or.inr rfl, Or.inr rfl, Or.inr rfl, Or.inl rfl, Or.inr rfl, trivial⟩ ?_
            exact kJ31 _ ⟨fun _ => ⟨(fun q => absurd q c37), fun _ => ⟨fun _ => rfl, (fun q => absurd c40 q)⟩⟩, (fun q => absurd c34 q)⟩
          · have q41 := q39 c40
            obtain ⟨g13, g14⟩ := q41
            refine V.iload hc dX1_reached_117 rfl ?_
            refine V.iload hc dX1_reached_119 rfl ?_
            refine V.iload_n hc dX1_reached_121 rfl rfl ?_
            refine V.iadd hc dX1_reached_122 ?_
            refine V.iconst hc dX1_reached_123 ?_
            refine V.isub hc dX1_reached_124 ?_
            refine V.iload_n hc dX1_reached_125 rfl rfl ?_
            refine V.idiv hc g13 g14 dX1_reached_126 ?_
            refine V.iadd hc dX1_reached_127 ?_
            refine V.istore hc dX1_reached_128 rfl (lo' := [(11, o), (0, a1), (0, a2), (0, a3), (0, l4), (0, l5), (0, l6), (0, l7), (0, l8), (0, 100 * (a2 - (h 19 o l8))), (0, (h 18 o l8) + ((((100 * (a2 - (h 19 o l8))) + a3) - 1) / a3))]) rfl ?_
            refine V.drop (lo' := [(11, o), (0, a1), (0, a2), (0, a3), (0, l4), (0, l5), (0, l6), (0, l7), (0, l8), (1, 0), (0, (h 18 o l8) + ((((100 * (a2 - (h 19 o l8))) + a3) - 1) / a3))]) ⟨Or.inr rfl, Or.inr rfl, Or.inr rfl, Or.inr rfl, Or.inr rfl, Or.inr rfl, Or.inr rfl, Or.inr rfl, Or.inr rfl, Or.inl rfl, Or.inr rfl, trivial⟩ ?_
            exact kJ31 _ ⟨fun _ => ⟨(fun q => absurd q c37), fun _ => ⟨(fun q => absurd q c40), fun _ => rfl⟩⟩, (fun q => absurd c34 q)⟩
      · have q42 := q33 c34
        obtain ⟨g15, q43, q44⟩ := q42
        refine V.iload hc dX1_reached_75 rfl ?_
        refine V.if_le hc (tgt := 108) dX1_reached_77 (by decide) g15 (fun c45 => ?_) (fun c45 => ?_)
        · have q46 := q43 c45
          obtain ⟨g16, q47⟩ := q46
          refine V.iload hc dX1_reached_108 rfl ?_
          refine V.if_le hc (tgt := 130) dX1_reached_110 (by decide) g16 (fun c48 => ?_) (fun c48 => ?_)
          · refine V.drop (lo' := [(11, o), (0, a1), (0, a2), (0, a3), (0, l4), (0, l5), (0, l6), (0, l7), (0, l8), (1, 0), (0, h 18 o l8)]) ⟨Or.inr rfl, Or.inr rfl, Or.inr rfl, Or.inr rfl, Or.inr rfl, Or.inr rfl, Or.inr rfl, Or.inr rfl, Or.inr rfl, Or.inl rfl, Or.inr rfl, trivial⟩ ?_
            exact kJ31 _ ⟨(fun q => absurd q c34), fun _ => ⟨fun _ => ⟨fun _ => rfl, (fun q => absurd c48 q)⟩, (fun q => absurd c45 q)⟩⟩
          · have q49 := q47 c48
            obtain ⟨g17, q50⟩ := q49
            refine V.iload_n hc dX1_reached_113 rfl rfl ?_
            refine V.if_le hc (tgt := 130) dX1_reached_114 (by decide) g17 (fun c51 => ?_) (fun c51 => ?_)
            · refine V.drop (lo' := [(11, o), (0, a1), (0, a2), (0, a3), (0, l4), (0, l5), (0, l6), (0, l7), (0, l8), (1, 0), (0, h 18 o l8)]) ⟨Or.inr rfl, Or.inr rfl, Or.inr rfl, Or.inr rfl, Or.inr rfl, Or.inr rfl, Or.inr rfl, Or.inr rfl, Or.inr rfl, Or.inl rfl, Or.inr rfl, trivial⟩ ?_
              exact kJ31 _ ⟨(fun q => absurd q c34), fun _ => ⟨fun _ => ⟨(fun q => absurd q c48), fun _ => ⟨fun _ => rfl, (fun q => absurd c51 q)⟩⟩, (fun q => absurd c45 q)⟩⟩
            · have q52 := q50 c51
              obtain ⟨g18, g19⟩ := q52
              refine V.iload hc dX1_reached_117 rfl ?_
              refine V.iload hc dX1_reached_119 rfl ?_
              refine V.iload_n hc dX1_reached_121 rfl rfl ?_
              refine V.iadd hc dX1_reached_122 ?_
              refine V.iconst hc dX1_reached_123 ?_
              refine V.isub hc dX1_reached_124 ?_
              refine V.iload_n hc dX1_reached_125 rfl rfl ?_
              refine V.idiv hc g18 g19 dX1_reached_126 ?_
              refine V.iadd hc dX1_reached_127 ?_
              refine V.istore hc dX1_reached_128 rfl (lo' := [(11, o), (0, a1), (0, a2), (0, a3), (0, l4), (0, l5), (0, l6), (0, l7), (0, l8), (0, 100 * (a2 - (h 19 o l8))), (0, (h 18 o l8) + ((((100 * (a2 - (h 19 o l8))) + a3) - 1) / a3))]) rfl ?_
              refine V.drop (lo' := [(11, o), (0, a1), (0, a2), (0, a3), (0, l4), (0, l5), (0, l6), (0, l7), (0, l8), (1, 0), (0, (h 18 o l8) + ((((100 * (a2 - (h 19 o l8))) + a3) - 1) / a3))]) ⟨Or.inr rfl, Or.inr rfl, Or.inr rfl, Or.inr rfl, Or.inr rfl, Or.inr rfl, Or.inr rfl, Or.inr rfl, Or.inr rfl, Or.inl rfl, Or.inr rfl, trivial⟩ ?_
              exact kJ31 _ ⟨(fun q => absurd q c34), fun _ => ⟨fun _ => ⟨(fun q => absurd q c48), fun _ => ⟨(fun q => absurd q c51), fun _ => rfl⟩⟩, (fun q => absurd c45 q)⟩⟩
        · have q53 := q44 c45
          obtain ⟨g20, g21, g22⟩ := q53
          refine V.iload hc dX1_reached_80 rfl ?_
          refine V.aload_n (t := 1) hc dX1_reached_82 rfl rfl ?_
          refine V.gR hc gR_X1_15 (i' := o) rfl dX1_reached_83 ?_
          refine V.iload_n hc dX1_reached_86 rfl rfl ?_
          refine V.ald hc ak_14 g20 dX1_reached_87 ?_
          refine V.iload hc dX1_reached_88 rfl ?_
          refine V.iload hc dX1_reached_90 rfl ?_
          refine V.isub hc dX1_reached_92 ?_
          refine V.iload hc dX1_reached_93 rfl ?_
          refine V.iadd hc dX1_reached_95 ?_
          refine V.iconst hc dX1_reached_96 ?_
          refine V.isub hc dX1_reached_97 ?_
          refine V.iload hc dX1_reached_98 rfl ?_
          refine V.idiv hc g21 g22 dX1_reached_100 ?_
          refine V.iadd hc dX1_reached_101 ?_
          refine V.iadd hc dX1_reached_102 ?_
          refine V.istore hc dX1_reached_103 rfl (lo' := [(11, o), (0, a1), (0, a2), (0, a3), (0, l4), (0, l5), (0, l6), (0, l7), (0, l8), (0, 100 * (a2 - (h 19 o l8))), (0, (h 18 o l8) + ((h 14 o a1) + (((((100 * (a2 - (h 19 o l8))) - l5) + l4) - 1) / l4)))]) rfl ?_
          refine V.goto hc (tgt := 130) dX1_reached_105 (by decide) ?_
          refine V.drop (lo' := [(11, o), (0, a1), (0, a2), (0, a3), (0, l4), (0, l5), (0, l6), (0, l7), (0, l8), (1, 0), (0, (h 18 o l8) + ((h 14 o a1) + (((((100 * (a2 - (h 19 o l8))) - l5) + l4) - 1) / l4)))]) ⟨Or.inr rfl, Or.inr rfl, Or.inr rfl, Or.inr rfl, Or.inr rfl, Or.inr rfl, Or.inr rfl, Or.inr rfl, Or.inr rfl, Or.inl rfl, Or.inr rfl, trivial⟩ ?_
          exact kJ31 _ ⟨(fun q => absurd q c34), fun _ => ⟨(fun q => absurd q c45), fun _ => rfl⟩⟩
theorem qX1_reached (G : GG) (l : Launch) (o : Int) (a1 : Int) (a2 : Int) (a3 : Int) (h : HP) (P : Int → HP → Prop) (hw : wX1_reached o a1 a2 a3 h P) : CnI l G yX1_reached cX1_reached 11 (some .int) 8 [(11, o), (0, a1), (0, a2), (0, a3)] h P := by
  refine CnI.of (lo := [(11, o), (0, a1), (0, a2), (0, a3), (1, 0), (1, 0), (1, 0), (1, 0), (1, 0), (1, 0), (1, 0)]) (by decide) rfl rfl rfl ?_
  intro p e s m args below meth c hc hr
  have hc : VC G p (rmD 8 0) s m args meth c RX1 cX1_reached 11 8 := hc
  refine V.aload_n (t := 1) hc dX1_reached_0 rfl rfl ?_
  refine V.gR hc gR_X1_18 (i' := o) rfl dX1_reached_1 ?_
  refine V.iload_n hc dX1_reached_4 rfl rfl ?_
  obtain ⟨g1, hw⟩ := hw
  refine V.ald hc ak_15 g1 dX1_reached_5 ?_
  refine V.istore hc dX1_reached_6 rfl (lo' := [(11, o), (0, a1), (0, a2), (0, a3), (0, h 15 o a1), (1, 0), (1, 0), (1, 0), (1, 0), (1, 0), (1, 0)]) rfl ?_
  refine V.iload_n hc dX1_reached_8 rfl rfl ?_
  refine V.aload_n (t := 1) hc dX1_reached_9 rfl rfl ?_
  refine V.gR hc gR_X1_15 (i' := o) rfl dX1_reached_10 ?_
  refine V.iload_n hc dX1_reached_13 rfl rfl ?_
  obtain ⟨g2, hw⟩ := hw
  refine V.ald hc ak_14 g2 dX1_reached_14 ?_
  refine V.imul hc dX1_reached_15 ?_
  refine V.istore hc dX1_reached_16 rfl (lo' := [(11, o), (0, a1), (0, a2), (0, a3), (0, h 15 o a1), (0, a3 * (h 14 o a1)), (1, 0), (1, 0), (1, 0), (1, 0), (1, 0)]) rfl ?_
  refine V.iconst hc dX1_reached_18 ?_
  refine V.istore hc dX1_reached_19 rfl (lo' := [(11, o), (0, a1), (0, a2), (0, a3), (0, h 15 o a1), (0, a3 * (h 14 o a1)), (0, 0), (1, 0), (1, 0), (1, 0), (1, 0)]) rfl ?_
  refine V.iload_n hc dX1_reached_21 rfl rfl ?_
  refine V.bipush hc dX1_reached_22 (by decide) ?_
  refine V.imul hc dX1_reached_24 ?_
  refine V.istore hc dX1_reached_25 rfl (lo' := [(11, o), (0, a1), (0, a2), (0, a3), (0, h 15 o a1), (0, a3 * (h 14 o a1)), (0, 0), (0, a1 * 32), (1, 0), (1, 0), (1, 0)]) rfl ?_
  refine V.iload hc dX1_reached_27 rfl ?_
  refine V.istore hc dX1_reached_29 rfl (lo' := [(11, o), (0, a1), (0, a2), (0, a3), (0, h 15 o a1), (0, a3 * (h 14 o a1)), (0, 0), (0, a1 * 32), (0, a1 * 32), (1, 0), (1, 0)]) rfl ?_
  obtain ⟨f54, hw⟩ := hw
  refine tX1_reached_31 hc hr ?_ f54 _ _ hw
  · intro l55 hw
    refine V.iload hc dX1_reached_152 rfl ?_
    exact V.iret hc hr dX1_reached_154 hw
def wX8_isLeaf (o : Int) (a1 : Int) (h : HP) (P : Int → HP → Prop) : Prop := (0 ≤ a1 ∧ a1 < 13) ∧ (-2147483648 ≤ h 38 o a1 ∧ h 38 o a1 < 2147483648) ∧ ∀ t3 : Int, ((¬ h 38 o a1 = 0 → t3 = 0) ∧ (h 38 o a1 = 0 → t3 = 1)) → (t3 = 0 ∨ t3 = 1) ∧ P t3 h
theorem qX8_isLeaf (G : GG) (l : Launch) (o : Int) (a1 : Int) (h : HP) (P : Int → HP → Prop) (hw : wX8_isLeaf o a1 h P) : CnI l G yX8_isLeaf cX8_isLeaf 2 (some .boolean) 8 [(18, o), (0, a1)] h P := by
  refine CnI.of (lo := [(18, o), (0, a1)]) (by decide) rfl rfl rfl ?_
  intro p e s m args below meth c hc hr
  have hc : VC G p (rmD 8 0) s m args meth c RX8 cX8_isLeaf 2 8 := hc
  refine V.aload_n (t := 8) hc dX8_isLeaf_0 rfl rfl ?_
  refine V.gR hc gR_X8_22 (i' := o) rfl dX8_isLeaf_1 ?_
  refine V.iload_n hc dX8_isLeaf_4 rfl rfl ?_
  obtain ⟨g1, hw⟩ := hw
  refine V.ald hc ak_38 g1 dX8_isLeaf_5 ?_
  obtain ⟨q4, hw⟩ := hw
  have kJ6 : ∀ t3 : Int, ((¬ h 38 o a1 = 0 → t3 = 0) ∧ (h 38 o a1 = 0 → t3 = 1)) → V G p l e (rmD 8 0) s m args below meth c (MQ below (QI G P) args s 0 0 (va_Aof G)) 2 14 [(1, 0), (1, 0)] [(0, t3)] h 0 := by
    intro t3 he
    replace hw := hw t3 he
    clear he
    obtain ⟨g5, hw⟩ := hw
    exact V.zret hc hr dX8_isLeaf_14 g5 hw
  have g2 := q4
  refine V.if_ne hc (tgt := 13) dX8_isLeaf_6 (by decide) g2 (fun c7 => ?_) (fun c7 => ?_)
  · refine V.iconst hc dX8_isLeaf_13 ?_
    refine V.drop (lo' := [(1, 0), (1, 0)]) ⟨Or.inl rfl, Or.inl rfl, trivial⟩ ?_
    exact kJ6 _ ⟨fun _ => rfl, (fun q => absurd q c7)⟩
  · refine V.iconst hc dX8_isLeaf_9 ?_
    refine V.goto hc (tgt := 14) dX8_isLeaf_10 (by decide) ?_
    refine V.drop (lo' := [(1, 0), (1, 0)]) ⟨Or.inl rfl, Or.inl rfl, trivial⟩ ?_
    exact kJ6 _ ⟨(fun q => absurd c7 q), fun _ => rfl⟩
def wX1_put (o : Int) (a1 : Int) (a2 : Int) (a3 : Int) (a4 : Int) (h : HP) (P : HP → Prop) : Prop := (0 ≤ a1 ∧ a1 < 36) ∧ ∀ h1 : HP, h1 = up h 13 o a1 a2 → (0 ≤ a1 ∧ a1 < 36) ∧ ∀ h3 : HP, h3 = up h1 14 o a1 a3 → (0 ≤ a1 ∧ a1 < 36) ∧ ∀ h5 : HP, h5 = up h3 15 o a1 a4 → ((-2147483648 ≤ a3 ∧ a3 < 2147483648) ∧ (¬ a3 = 0 → ((-2147483648 ≤ a2 ∧ a2 < 2147483648) ∧ (-2147483648 ≤ a4 ∧ a4 < 2147483648)))) ∧ ∀ t10 : Int, ((a3 = 0 → t10 = 1) ∧ (¬ a3 = 0 → ((¬ a2 = a4 → t10 = 0) ∧ (a2 = a4 → t10 = 1)))) → ((-2147483648 ≤ t10 ∧ t10 < 2147483648) ∧ (t10 = 0 → ((0 ≤ (a2 * a3) + 99 ∧ (a2 * a3) + 99 < 2147483648) ∧ (-2147483648 ≤ ((a2 * a3) + 99) / 100 ∧ ((a2 * a3) + 99) / 100 < 2147483648)))) ∧ ∀ t15 : Int, ((t10 = 0 → t15 = max 1 (((a2 * a3) + 99) / 100)) ∧ (¬ t10 = 0 → t15 = 0)) → (0 ≤ a1 ∧ a1 < 36) ∧ ∀ h17 : HP, h17 = up h5 16 o a1 t15 → (0 ≤ a1 ∧ a1 < 36) ∧ ∀ h19 : HP, h19 = up h17 17 o a1 0 → P h19
theorem qX1_put (G : GG) (l : Launch) (o : Int) (a1 : Int) (a2 : Int) (a3 : Int) (a4 : Int) (h : HP) (P : HP → Prop) (hw : wX1_put o a1 a2 a3 a4 h P) : CnV l G yX1_put cX1_put 6 8 [(11, o), (0, a1), (0, a2), (0, a3), (0, a4)] h P := by
  refine CnV.of (lo := [(11, o), (0, a1), (0, a2), (0, a3), (0, a4), (1, 0)]) (by decide) rfl rfl rfl ?_
  intro p e s m args below meth c hc hr
  have hc : VC G p (rmD 8 0) s m args meth c RX1 cX1_put 6 8 := hc
  refine V.aload_n (t := 1) hc dX1_put_0 rfl rfl ?_
  refine V.gR hc gR_X1_11 (i' := o) rfl dX1_put_1 ?_
  refine V.iload_n hc dX1_put_4 rfl rfl ?_
  refine V.iload_n hc dX1_put_5 rfl rfl ?_
  obtain ⟨g2, hw⟩ := hw
  refine V.ast hc ak_13 g2 dX1_put_6 (fun h1 e => ?_)
  replace hw := hw h1 e
  clear e
  refine V.aload_n (t := 1) hc dX1_put_7 rfl rfl ?_
  refine V.gR hc gR_X1_15 (i' := o) rfl dX1_put_8 ?_
  refine V.iload_n hc dX1_put_11 rfl rfl ?_
  refine V.iload_n hc dX1_put_12 rfl rfl ?_
  obtain ⟨g4, hw⟩ := hw
  refine V.ast hc ak_14 g4 dX1_put_13 (fun h3 e => ?_)
  replace hw := hw h3 e
  clear e
  refine V.aload_n (t := 1) hc dX1_put_14 rfl rfl ?_
  refine V.gR hc gR_X1_18 (i' := o) rfl dX1_put_15 ?_
  refine V.iload_n hc dX1_put_18 rfl rfl ?_
  refine V.iload hc dX1_put_19 rfl ?_
  obtain ⟨g6, hw⟩ := hw
  refine V.ast hc ak_15 g6 dX1_put_21 (fun h5 e => ?_)
  replace hw := hw h5 e
  clear e
  refine V.iload_n hc dX1_put_22 rfl rfl ?_
  obtain ⟨q11, hw⟩ := hw
  have kJ25 : ∀ t10 : Int, ((a3 = 0 → t10 = 1) ∧ (¬ a3 = 0 → ((¬ a2 = a4 → t10 = 0) ∧ (a2 = a4 → t10 = 1)))) → V G p l e (rmD 8 0) s m args below meth c (MQ below (QV G P) args s 0 0 (va_Aof G)) 6 37 [(11, o), (0, a1), (0, a2), (0, a3), (1, 0), (1, 0)] [(0, t10)] h5 0 := by
    intro t10 he
    replace hw := hw t10 he
    clear he
    refine V.istore hc dX1_put_37 rfl (lo' := [(11, o), (0, a1), (0, a2), (0, a3), (1, 0), (0, t10)]) rfl ?_
    refine V.aload_n (t := 1) hc dX1_put_39 rfl rfl ?_
    refine V.gR hc gR_X1_21 (i' := o) rfl dX1_put_40 ?_
    refine V.iload_n hc dX1_put_43 rfl rfl ?_
    refine V.iload hc dX1_put_44 rfl ?_
    obtain ⟨q16, hw⟩ := hw
    have kJ21 : ∀ t15 : Int, ((t10 = 0 → t15 = max 1 (((a2 * a3) + 99) / 100)) ∧ (¬ t10 = 0 → t15 = 0)) → V G p l e (rmD 8 0) s m args below meth c (MQ below (QV G P) args s 0 0 (va_Aof G)) 6 66 [(11, o), (0, a1), (1, 0), (1, 0), (1, 0), (1, 0)] [(0, t15), (0, a1), (26, o)] h5 0 := by
      intro t15 he
      replace hw := hw t15 he
      clear he
      obtain ⟨g18, hw⟩ := hw
      refine V.ast hc ak_16 g18 dX1_put_66 (fun h17 e => ?_)
      replace hw := hw h17 e
      clear e
      refine V.aload_n (t := 1) hc dX1_put_67 rfl rfl ?_
      refine V.gR hc gR_X1_24 (i' := o) rfl dX1_put_68 ?_
      refine V.iload_n hc dX1_put_71 rfl rfl ?_
      refine V.iconst hc dX1_put_72 ?_
      obtain ⟨g20, hw⟩ := hw
      refine V.ast hc ak_17 g20 dX1_put_73 (fun h19 e => ?_)
      replace hw := hw h19 e
      clear e
      exact V.vret hc hr dX1_put_74 hw
    obtain ⟨g12, q22⟩ := q16
    refine V.if_eq hc (tgt := 53) dX1_put_46 (by decide) g12 (fun c23 => ?_) (fun c23 => ?_)
    · have q24 := q22 c23
      obtain ⟨g13, g14⟩ := q24
      refine V.iconst hc dX1_put_53 ?_
      refine V.iload_n hc dX1_put_54 rfl rfl ?_
      refine V.iload_n hc dX1_put_55 rfl rfl ?_
      refine V.imul hc dX1_put_56 ?_
      refine V.bipush hc dX1_put_57 (by decide) ?_
      refine V.iadd hc dX1_put_59 ?_
      refine V.bipush hc dX1_put_60 (by decide) ?_
      refine V.idiv hc g13 (by omega) dX1_put_62 ?_
      refine V.mmax hc ml_X1_43 rfl rfl (by omega) g14 dX1_put_63 ?_
      refine V.drop (lo' := [(11, o), (0, a1), (1, 0), (1, 0), (1, 0), (1, 0)]) ⟨Or.inr rfl, Or.inr rfl, Or.inl rfl, Or.inl rfl, Or.inr rfl, Or.inl rfl, trivial⟩ ?_
      exact kJ21 _ ⟨fun _ => rfl, (fun q => absurd c23 q)⟩
    · refine V.iconst hc dX1_put_49 ?_
      refine V.goto hc (tgt := 66) dX1_put_50 (by decide) ?_
      refine V.drop (lo' := [(11, o), (0, a1), (1, 0), (1, 0), (1, 0), (1, 0)]) ⟨Or.inr rfl, Or.inr rfl, Or.inl rfl, Or.inl rfl, Or.inr rfl, Or.inl rfl, trivial⟩ ?_
      exact kJ21 _ ⟨(fun q => absurd q c23), fun _ => rfl⟩
  obtain ⟨g7, q26⟩ := q11
  refine V.if_eq hc (tgt := 32) dX1_put_23 (by decide) g7 (fun c27 => ?_) (fun c27 => ?_)
  · refine V.iconst hc dX1_put_32 ?_
    refine V.goto hc (tgt := 37) dX1_put_33 (by decide) ?_
    refine V.drop (lo' := [(11, o), (0, a1), (0, a2), (0, a3), (1, 0), (1, 0)]) ⟨Or.inr rfl, Or.inr rfl, Or.inr rfl, Or.inr rfl, Or.inl rfl, Or.inr rfl, trivial⟩ ?_
    exact kJ25 _ ⟨fun _ => rfl, (fun q => absurd c27 q)⟩
  · have q28 := q26 c27
    obtain ⟨g8, g9⟩ := q28
    refine V.iload_n hc dX1_put_26 rfl rfl ?_
    refine V.iload hc dX1_put_27 rfl ?_
    refine V.icmp_ne hc (tgt := 36) dX1_put_29 (by decide) g8 g9 (fun c29 => ?_) (fun c29 => ?_)
    · refine V.iconst hc dX1_put_36 ?_
      refine V.drop (lo' := [(11, o), (0, a1), (0, a2), (0, a3), (1, 0), (1, 0)]) ⟨Or.inr rfl, Or.inr rfl, Or.inr rfl, Or.inr rfl, Or.inl rfl, Or.inr rfl, trivial⟩ ?_
      exact kJ25 _ ⟨(fun q => absurd q c27), fun _ => ⟨fun _ => rfl, (fun q => absurd q c29)⟩⟩
    · refine V.iconst hc dX1_put_32 ?_
      refine V.goto hc (tgt := 37) dX1_put_33 (by decide) ?_
      refine V.drop (lo' := [(11, o), (0, a1), (0, a2), (0, a3), (1, 0), (1, 0)]) ⟨Or.inr rfl, Or.inr rfl, Or.inr rfl, Or.inr rfl, Or.inl rfl, Or.inr rfl, trivial⟩ ?_
      exact kJ25 _ ⟨(fun q => absurd q c27), fun _ => ⟨(fun q => absurd c29 q), fun _ => rfl⟩⟩
def wX1_isWell (a0 : Int) (a1 : Int) (a2 : Int) (h : HP) (P : Int → HP → Prop) : Prop := ((-2147483648 ≤ a0 ∧ a0 < 2147483648) ∧ (¬ a0 < 0 → ((-2147483648 ≤ a0 ∧ a0 < 2147483648) ∧ (¬ 100 < a0 → ((-2147483648 ≤ a1 ∧ a1 < 2147483648) ∧ (¬ a1 < 0 → ((-2147483648 ≤ a1 ∧ a1 < 2147483648) ∧ (¬ 30 < a1 → ((-2147483648 ≤ a2 ∧ a2 < 2147483648) ∧ (¬ a2 < 1 → (-2147483648 ≤ a2 ∧ a2 < 2147483648))))))))))) ∧ ∀ t7 : Int, ((a0 < 0 → t7 = 0) ∧ (¬ a0 < 0 → ((100 < a0 → t7 = 0) ∧ (¬ 100 < a0 → ((a1 < 0 → t7 = 0) ∧ (¬ a1 < 0 → ((30 < a1 → t7 = 0) ∧ (¬ 30 < a1 → ((a2 < 1 → t7 = 0) ∧ (¬ a2 < 1 → ((100 < a2 → t7 = 0) ∧ (¬ 100 < a2 → t7 = 1)))))))))))) → (t7 = 0 ∨ t7 = 1) ∧ P t7 h
theorem qX1_isWell (G : GG) (l : Launch) (a0 : Int) (a1 : Int) (a2 : Int) (h : HP) (P : Int → HP → Prop) (hw : wX1_isWell a0 a1 a2 h P) : CnI l G yX1_isWell cX1_isWell 3 (some .boolean) 8 [(0, a0), (0, a1), (0, a2)] h P := by
  refine CnI.of (lo := [(0, a0), (0, a1), (0, a2)]) (by decide) rfl rfl rfl ?_
  intro p e s m args below meth c hc hr
  have hc : VC G p (rmD 8 0) s m args meth c RX1 cX1_isWell 3 8 := hc
  refine V.iload_n hc dX1_isWell_0 rfl rfl ?_
  obtain ⟨q8, hw⟩ := hw
  have kJ10 : ∀ t7 : Int, ((a0 < 0 → t7 = 0) ∧ (¬ a0 < 0 → ((100 < a0 → t7 = 0) ∧ (¬ 100 < a0 → ((a1 < 0 → t7 = 0) ∧ (¬ a1 < 0 → ((30 < a1 → t7 = 0) ∧ (¬ 30 < a1 → ((a2 < 1 → t7 = 0) ∧ (¬ a2 < 1 → ((100 < a2 → t7 = 0) ∧ (¬ 100 < a2 → t7 = 1)))))))))))) → V G p l e (rmD 8 0) s m args below meth c (MQ below (QI G P) args s 0 0 (va_Aof G)) 3 36 [(1, 0), (1, 0), (1, 0)] [(0, t7)] h 0 := by
    intro t7 he
    replace hw := hw t7 he
    clear he
    obtain ⟨g9, hw⟩ := hw
    exact V.zret hc hr dX1_isWell_36 g9 hw
  obtain ⟨g1, q11⟩ := q8
  refine V.if_lt hc (tgt := 35) dX1_isWell_1 (by decide) g1 (fun c12 => ?_) (fun c12 => ?_)
  · refine V.iconst hc dX1_isWell_35 ?_
    refine V.drop (lo' := [(1, 0), (1, 0), (1, 0)]) ⟨Or.inl rfl, Or.inl rfl, Or.inl rfl, trivial⟩ ?_
    exact kJ10 _ ⟨fun _ => rfl, (fun q => absurd c12 q)⟩
  · have q13 := q11 c12
    obtain ⟨g2, q14⟩ := q13
    refine V.iload_n hc dX1_isWell_4 rfl rfl ?_
    refine V.bipush hc dX1_isWell_5 (by decide) ?_
    refine V.icmp_gt hc (tgt := 35) dX1_isWell_7 (by decide) g2 (by omega) (fun c15 => ?_) (fun c15 => ?_)
    · refine V.iconst hc dX1_isWell_35 ?_
      refine V.drop (lo' := [(1, 0), (1, 0), (1, 0)]) ⟨Or.inl rfl, Or.inl rfl, Or.inl rfl, trivial⟩ ?_
      exact kJ10 _ ⟨(fun q => absurd q c12), fun _ => ⟨fun _ => rfl, (fun q => absurd c15 q)⟩⟩
    · have q16 := q14 c15
      obtain ⟨g3, q17⟩ := q16
      refine V.iload_n hc dX1_isWell_10 rfl rfl ?_
      refine V.if_lt hc (tgt := 35) dX1_isWell_11 (by decide) g3 (fun c18 => ?_) (fun c18 => ?_)
      · refine V.iconst hc dX1_isWell_35 ?_
        refine V.drop (lo' := [(1, 0), (1, 0), (1, 0)]) ⟨Or.inl rfl, Or.inl rfl, Or.inl rfl, trivial⟩ ?_
        exact kJ10 _ ⟨(fun q => absurd q c12), fun _ => ⟨(fun q => absurd q c15), fun _ => ⟨fun _ => rfl, (fun q => absurd c18 q)⟩⟩⟩
      · have q19 := q17 c18
        obtain ⟨g4, q20⟩ := q19
        refine V.iload_n hc dX1_isWell_14 rfl rfl ?_
        refine V.bipush hc dX1_isWell_15 (by decide) ?_
        refine V.icmp_gt hc (tgt := 35) dX1_isWell_17 (by decide) g4 (by omega) (fun c21 => ?_) (fun c21 => ?_)
        · refine V.iconst hc dX1_isWell_35 ?_
          refine V.drop (lo' := [(1, 0), (1, 0), (1, 0)]) ⟨Or.inl rfl, Or.inl rfl, Or.inl rfl, trivial⟩ ?_
          exact kJ10 _ ⟨(fun q => absurd q c12), fun _ => ⟨(fun q => absurd q c15), fun _ => ⟨(fun q => absurd q c18), fun _ => ⟨fun _ => rfl, (fun q => absurd c21 q)⟩⟩⟩⟩
        · have q22 := q20 c21
          obtain ⟨g5, q23⟩ := q22
          refine V.iload_n hc dX1_isWell_20 rfl rfl ?_
          refine V.iconst hc dX1_isWell_21 ?_
          refine V.icmp_lt hc (tgt := 35) dX1_isWell_22 (by decide) g5 (by omega) (fun c24 => ?_) (fun c24 => ?_)
          · refine V.iconst hc dX1_isWell_35 ?_
            refine V.drop (lo' := [(1, 0), (1, 0), (1, 0)]) ⟨Or.inl rfl, Or.inl rfl, Or.inl rfl, trivial⟩ ?_
            exact kJ10 _ ⟨(fun q => absurd q c12), fun _ => ⟨(fun q => absurd q c15), fun _ => ⟨(fun q => absurd q c18), fun _ => ⟨(fun q => absurd q c21), fun _ => ⟨fun _ => rfl, (fun q => absurd c24 q)⟩⟩⟩⟩⟩
          · have q25 := q23 c24
            have g6 := q25
            refine V.iload_n hc dX1_isWell_25 rfl rfl ?_
            refine V.bipush hc dX1_isWell_26 (by decide) ?_
            refine V.icmp_gt hc (tgt := 35) dX1_isWell_28 (by decide) g6 (by omega) (fun c26 => ?_) (fun c26 => ?_)
            · refine V.iconst hc dX1_isWell_35 ?_
              refine V.drop (lo' := [(1, 0), (1, 0), (1, 0)]) ⟨Or.inl rfl, Or.inl rfl, Or.inl rfl, trivial⟩ ?_
              exact kJ10 _ ⟨(fun q => absurd q c12), fun _ => ⟨(fun q => absurd q c15), fun _ => ⟨(fun q => absurd q c18), fun _ => ⟨(fun q => absurd q c21), fun _ => ⟨(fun q => absurd q c24), fun _ => ⟨fun _ => rfl, (fun q => absurd c26 q)⟩⟩⟩⟩⟩⟩
            · refine V.iconst hc dX1_isWell_31 ?_
              refine V.goto hc (tgt := 36) dX1_isWell_32 (by decide) ?_
              refine V.drop (lo' := [(1, 0), (1, 0), (1, 0)]) ⟨Or.inl rfl, Or.inl rfl, Or.inl rfl, trivial⟩ ?_
              exact kJ10 _ ⟨(fun q => absurd q c12), fun _ => ⟨(fun q => absurd q c15), fun _ => ⟨(fun q => absurd q c18), fun _ => ⟨(fun q => absurd q c21), fun _ => ⟨(fun q => absurd q c24), fun _ => ⟨(fun q => absurd q c26), fun _ => rfl⟩⟩⟩⟩⟩⟩
def wX1_drop (o : Int) (a1 : Int) (h : HP) (P : HP → Prop) : Prop := (0 ≤ a1 ∧ a1 < 36) ∧ ∀ h1 : HP, h1 = up h 15 o a1 0 → (0 ≤ a1 ∧ a1 < 36) ∧ ∀ h3 : HP, h3 = up h1 17 o a1 0 → P h3
theorem qX1_drop (G : GG) (l : Launch) (o : Int) (a1 : Int) (h : HP) (P : HP → Prop) (hw : wX1_drop o a1 h P) : CnV l G yX1_drop cX1_drop 2 8 [(11, o), (0, a1)] h P := by
  refine CnV.of (lo := [(11, o), (0, a1)]) (by decide) rfl rfl rfl ?_
  intro p e s m args below meth c hc hr
  have hc : VC G p (rmD 8 0) s m args meth c RX1 cX1_drop 2 8 := hc
  refine V.aload_n (t := 1) hc dX1_drop_0 rfl rfl ?_
  refine V.gR hc gR_X1_18 (i' := o) rfl dX1_drop_1 ?_
  refine V.iload_n hc dX1_drop_4 rfl rfl ?_
  refine V.iconst hc dX1_drop_5 ?_
  obtain ⟨g2, hw⟩ := hw
  refine V.ast hc ak_15 g2 dX1_drop_6 (fun h1 e => ?_)
  replace hw := hw h1 e
  clear e
  refine V.aload_n (t := 1) hc dX1_drop_7 rfl rfl ?_
  refine V.gR hc gR_X1_24 (i' := o) rfl dX1_drop_8 ?_
  refine V.iload_n hc dX1_drop_11 rfl rfl ?_
  refine V.iconst hc dX1_drop_12 ?_
  obtain ⟨g4, hw⟩ := hw
  refine V.ast hc ak_17 g4 dX1_drop_13 (fun h3 e => ?_)
  replace hw := hw h3 e
  clear e
  exact V.vret hc hr dX1_drop_14 hw
def wX1_clear_2 (o : Int) (K19 : HP → Prop) : Nat → Int → HP → Prop
  | 0, _, _ => False
  | f + 1, l1, h => (-2147483648 ≤ l1 ∧ l1 < 2147483648) ∧ ((36 ≤ l1 → K19 h) ∧ (¬ 36 ≤ l1 → wX1_drop o l1 h (fun h3 => wX1_clear_2 o K19 f (l1 + 1) h3)))
def wX1_clear (o : Int) (h : HP) (P : HP → Prop) : Prop := (∃ f4 : Nat, wX1_clear_2 o (fun h5 => P h5) f4 0 h)
theorem tX1_clear_2 {G : GG} {p : Program} {l : Launch} {e : Jvm.Env} {s : State} {m : MethodId} {args : Array Value} {below : List Frame} {meth : Method} {c : Code} {P : HP → Prop} (hc : VC G p (rmD 9 0) s m args meth c RX1 cX1_clear 2 9) (hr : meth.sig.returnType = none) {o : Int} {K19 : HP → Prop} (hK19 : ∀  (h : HP), K19  h → V G p l e (rmD 9 0) s m args below meth c (MQ below (QV G P) args s 0 0 (va_Aof G)) 2 19 [(1, 0), (1, 0)] [] h 0) : ∀ (f : Nat) (l1 : Int) (h : HP), wX1_clear_2 o K19 f l1 h → V G p l e (rmD 9 0) s m args below meth c (MQ below (QV G P) args s 0 0 (va_Aof G)) 2 2 [(11, o), (0, l1)] [] h 0 := by
  intro f
  induction f with
  | zero =>
    intro l1 h hw
    exact hw.elim
  | succ f ih =>
    intro l1 h hw
    refine V.iload_n hc dX1_clear_2 rfl rfl ?_
    refine V.bipush hc dX1_clear_3 (by decide) ?_
    obtain ⟨g1, hw⟩ := hw
    refine V.icmp_ge hc (tgt := 19) dX1_clear_5 (by decide) g1 (by omega) (fun c2 => ?_) (fun c2 => ?_)
    · replace hw := hw.1 c2
      refine V.drop (lo' := [(1, 0), (1, 0)]) ⟨Or.inl rfl, Or.inl rfl, trivial⟩ ?_
      exact hK19 _ hw
    · replace hw := hw.2 c2
      refine V.aload_n (t := 1) hc dX1_clear_8 rfl rfl ?_
      refine V.iload_n hc dX1_clear_9 rfl rfl ?_
      refine V.callVV hc (qX1_drop G l _ _ _ _ hw) mo_X1_drop ml_X1_33 (by rfl) rfl rfl (as := [(0, l1)]) rfl rfl rfl rfl rfl ⟨Nat.zero_le _, Nat.zero_le _⟩ dX1_clear_10 (fun h3 hw => ?_)
      refine V.iinc hc dX1_clear_13 rfl rfl (lo' := [(11, o), (0, l1 + 1)]) rfl ?_
      refine V.goto hc (tgt := 2) dX1_clear_16 (by decide) ?_
      exact ih _ _ hw
theorem qX1_clear (G : GG) (l : Launch) (o : Int) (h : HP) (P : HP → Prop) (hw : wX1_clear o h P) : CnV l G yX1_clear cX1_clear 2 9 [(11, o)] h P := by
  refine CnV.of (lo := [(11, o), (1, 0)]) (by decide) rfl rfl rfl ?_
  intro p e s m args below meth c hc hr
  have hc : VC G p (rmD 9 0) s m args meth c RX1 cX1_clear 2 9 := hc
  refine V.iconst hc dX1_clear_0 ?_
  refine V.istore_n hc dX1_clear_1 rfl rfl (lo' := [(11, o), (0, 0)]) rfl ?_
  obtain ⟨f4, hw⟩ := hw
  refine tX1_clear_2 hc hr ?_ f4 _ _ hw
  · intro h5 hw
    exact V.vret hc hr dX1_clear_19 hw
def wX1_isSo (o : Int) (a1 : Int) (a2 : Int) (a3 : Int) (a4 : Int) (h : HP) (P : Int → HP → Prop) : Prop := (0 ≤ a1 ∧ a1 < 36) ∧ ((-2147483648 ≤ h 13 o a1 ∧ h 13 o a1 < 2147483648) ∧ (-2147483648 ≤ a2 ∧ a2 < 2147483648) ∧ (h 13 o a1 = a2 → ((0 ≤ a1 ∧ a1 < 36) ∧ (-2147483648 ≤ h 14 o a1 ∧ h 14 o a1 < 2147483648) ∧ (-2147483648 ≤ a3 ∧ a3 < 2147483648) ∧ (h 14 o a1 = a3 → ((0 ≤ a1 ∧ a1 < 36) ∧ (-2147483648 ≤ h 15 o a1 ∧ h 15 o a1 < 2147483648) ∧ (-2147483648 ≤ a4 ∧ a4 < 2147483648)))))) ∧ ∀ t10 : Int, ((¬ h 13 o a1 = a2 → t10 = 0) ∧ (h 13 o a1 = a2 → ((¬ h 14 o a1 = a3 → t10 = 0) ∧ (h 14 o a1 = a3 → ((¬ h 15 o a1 = a4 → t10 = 0) ∧ (h 15 o a1 = a4 → t10 = 1)))))) → (t10 = 0 ∨ t10 = 1) ∧ P t10 h
theorem qX1_isSo (G : GG) (l : Launch) (o : Int) (a1 : Int) (a2 : Int) (a3 : Int) (a4 : Int) (h : HP) (P : Int → HP → Prop) (hw : wX1_isSo o a1 a2 a3 a4 h P) : CnI l G yX1_isSo cX1_isSo 5 (some .boolean) 8 [(11, o), (0, a1), (0, a2), (0, a3), (0, a4)] h P := by
  refine CnI.of (lo := [(11, o), (0, a1), (0, a2), (0, a3), (0, a4)]) (by decide) rfl rfl rfl ?_
  intro p e s m args below meth c hc hr
  have hc : VC G p (rmD 8 0) s m args meth c RX1 cX1_isSo 5 8 := hc
  refine V.aload_n (t := 1) hc dX1_isSo_0 rfl rfl ?_
  refine V.gR hc gR_X1_11 (i' := o) rfl dX1_isSo_1 ?_
  refine V.iload_n hc dX1_isSo_4 rfl rfl ?_
  obtain ⟨g1, hw⟩ := hw
  refine V.ald hc ak_13 g1 dX1_isSo_5 ?_
  refine V.iload_n hc dX1_isSo_6 rfl rfl ?_
  obtain ⟨q11, hw⟩ := hw
  have kJ13 : ∀ t10 : Int, ((¬ h 13 o a1 = a2 → t10 = 0) ∧ (h 13 o a1 = a2 → ((¬ h 14 o a1 = a3 → t10 = 0) ∧ (h 14 o a1 = a3 → ((¬ h 15 o a1 = a4 → t10 = 0) ∧ (h 15 o a1 = a4 → t10 = 1)))))) → V G p l e (rmD 8 0) s m args below meth c (MQ below (QI G P) args s 0 0 (va_Aof G)) 5 36 [(1, 0), (1, 0), (1, 0), (1, 0), (1, 0)] [(0, t10)] h 0 := by
    intro t10 he
    replace hw := hw t10 he
    clear he
    obtain ⟨g12, hw⟩ := hw
    exact V.zret hc hr dX1_isSo_36 g12 hw
  obtain ⟨g2, g3, q14⟩ := q11
  refine V.icmp_ne hc (tgt := 35) dX1_isSo_7 (by decide) g2 g3 (fun c15 => ?_) (fun c15 => ?_)
  · refine V.iconst hc dX1_isSo_35 ?_
    refine V.drop (lo' := [(1, 0), (1, 0), (1, 0), (1, 0), (1, 0)]) ⟨Or.inl rfl, Or.inl rfl, Or.inl rfl, Or.inl rfl, Or.inl rfl, trivial⟩ ?_
    exact kJ13 _ ⟨fun _ => rfl, (fun q => absurd q c15)⟩
  · have q16 := q14 c15
    obtain ⟨g4, g5, g6, q17⟩ := q16
    refine V.aload_n (t := 1) hc dX1_isSo_10 rfl rfl ?_
    refine V.gR hc gR_X1_15 (i' := o) rfl dX1_isSo_11 ?_
    refine V.iload_n hc dX1_isSo_14 rfl rfl ?_
    refine V.ald hc ak_14 g4 dX1_isSo_15 ?_
    refine V.iload_n hc dX1_isSo_16 rfl rfl ?_
    refine V.icmp_ne hc (tgt := 35) dX1_isSo_17 (by decide) g5 g6 (fun c18 => ?_) (fun c18 => ?_)
    · refine V.iconst hc dX1_isSo_35 ?_
      refine V.drop (lo' := [(1, 0), (1, 0), (1, 0), (1, 0), (1, 0)]) ⟨Or.inl rfl, Or.inl rfl, Or.inl rfl, Or.inl rfl, Or.inl rfl, trivial⟩ ?_
      exact kJ13 _ ⟨(fun q => absurd c15 q), fun _ => ⟨fun _ => rfl, (fun q => absurd q c18)⟩⟩
    · have q19 := q17 c18
      obtain ⟨g7, g8, g9⟩ := q19
      refine V.aload_n (t := 1) hc dX1_isSo_20 rfl rfl ?_
      refine V.gR hc gR_X1_18 (i' := o) rfl dX1_isSo_21 ?_
      refine V.iload_n hc dX1_isSo_24 rfl rfl ?_
      refine V.ald hc ak_15 g7 dX1_isSo_25 ?_
      refine V.iload hc dX1_isSo_26 rfl ?_
      refine V.icmp_ne hc (tgt := 35) dX1_isSo_28 (by decide) g8 g9 (fun c20 => ?_) (fun c20 => ?_)
      · refine V.iconst hc dX1_isSo_35 ?_
        refine V.drop (lo' := [(1, 0), (1, 0), (1, 0), (1, 0), (1, 0)]) ⟨Or.inl rfl, Or.inl rfl, Or.inl rfl, Or.inl rfl, Or.inl rfl, trivial⟩ ?_
        exact kJ13 _ ⟨(fun q => absurd c15 q), fun _ => ⟨(fun q => absurd c18 q), fun _ => ⟨fun _ => rfl, (fun q => absurd q c20)⟩⟩⟩
      · refine V.iconst hc dX1_isSo_31 ?_
        refine V.goto hc (tgt := 36) dX1_isSo_32 (by decide) ?_
        refine V.drop (lo' := [(1, 0), (1, 0), (1, 0), (1, 0), (1, 0)]) ⟨Or.inl rfl, Or.inl rfl, Or.inl rfl, Or.inl rfl, Or.inl rfl, trivial⟩ ?_
        exact kJ13 _ ⟨(fun q => absurd c15 q), fun _ => ⟨(fun q => absurd c18 q), fun _ => ⟨(fun q => absurd c20 q), fun _ => rfl⟩⟩⟩
def wX1_reachFromZero_63 (o : Int) (a1 : Int) (a2 : Int) (l3 : Int) (P : Int → HP → Prop) (h : HP) : Prop := ((-2147483648 ≤ l3 ∧ l3 < 2147483648) ∧ (¬ l3 ≤ 0 → ((0 ≤ a1 ∧ a1 < 36) ∧ (-2147483648 ≤ h 13 o a1 ∧ h 13 o a1 < 2147483648) ∧ (¬ h 13 o a1 ≤ 0 → ((0 ≤ a1 ∧ a1 < 36) ∧ (0 ≤ a1 ∧ a1 < 36) ∧ (0 ≤ (l3 + (h 13 o a1)) - 1 ∧ (l3 + (h 13 o a1)) - 1 < 2147483648) ∧ (0 < h 13 o a1 ∧ h 13 o a1 < 2147483648)))))) ∧ ∀ t13 : Int, ((l3 ≤ 0 → t13 = 0) ∧ (¬ l3 ≤ 0 → ((h 13 o a1 ≤ 0 → t13 = 0) ∧ (¬ h 13 o a1 ≤ 0 → t13 = ((l3 + (h 13 o a1)) - 1) / (h 13 o a1))))) → P t13 h
def wX1_reachFromZero (o : Int) (a1 : Int) (a2 : Int) (h : HP) (P : Int → HP → Prop) : Prop := (0 ≤ a1 ∧ a1 < 36) ∧ (0 ≤ a1 ∧ a1 < 36) ∧ (-2147483648 ≤ 100 * a2 ∧ 100 * a2 < 2147483648) ∧ (-2147483648 ≤ (h 13 o a1) * (h 14 o a1) ∧ (h 13 o a1) * (h 14 o a1) < 2147483648) ∧ ((100 * a2 ≤ (h 13 o a1) * (h 14 o a1) → wX1_reachFromZero_63 o a1 a2 (100 * a2) P h) ∧ (¬ 100 * a2 ≤ (h 13 o a1) * (h 14 o a1) → (0 ≤ a1 ∧ a1 < 36) ∧ (-2147483648 ≤ h 15 o a1 ∧ h 15 o a1 < 2147483648) ∧ ((h 15 o a1 ≤ 0 → wX1_reachFromZero_63 o a1 a2 (100 * a2) P h) ∧ (¬ h 15 o a1 ≤ 0 → (0 ≤ a1 ∧ a1 < 36) ∧ (0 ≤ a1 ∧ a1 < 36) ∧ (0 ≤ a1 ∧ a1 < 36) ∧ (0 ≤ (((100 * a2) - ((h 13 o a1) * (h 14 o a1))) + (h 15 o a1)) - 1 ∧ (((100 * a2) - ((h 13 o a1) * (h 14 o a1))) + (h 15 o a1)) - 1 < 2147483648) ∧ (0 < h 15 o a1 ∧ h 15 o a1 < 2147483648) ∧ P ((h 14 o a1) + (((((100 * a2) - ((h 13 o a1) * (h 14 o a1))) + (h 15 o a1)) - 1) / (h 15 o a1))) h))))
theorem tX1_reachFromZero_63 {G : GG} {p : Program} {l : Launch} {e : Jvm.Env} {s : State} {m : MethodId} {args : Array Value} {below : List Frame} {meth : Method} {c : Code} {P : Int → HP → Prop} (hc : VC G p (rmD 8 0) s m args meth c RX1 cX1_reachFromZero 5 8) (hr : meth.sig.returnType = some .int) {o : Int} {a1 : Int} {a2 : Int} {l3 : Int} {h : HP} (hw : wX1_reachFromZero_63 o a1 a2 l3 P h) : V G p l e (rmD 8 0) s m args below meth c (MQ below (QI G P) args s 0 0 (va_Aof G)) 5 63 [(11, o), (0, a1), (1, 0), (0, l3), (1, 0)] [] h 0 := by
  refine V.iload_n hc dX1_reachFromZero_63 rfl rfl ?_
  obtain ⟨q14, hw⟩ := hw
  have kJ15 : ∀ t13 : Int, ((l3 ≤ 0 → t13 = 0) ∧ (¬ l3 ≤ 0 → ((h 13 o a1 ≤ 0 → t13 = 0) ∧ (¬ h 13 o a1 ≤ 0 → t13 = ((l3 + (h 13 o a1)) - 1) / (h 13 o a1))))) → V G p l e (rmD 8 0) s m args below meth c (MQ below (QI G P) args s 0 0 (va_Aof G)) 5 97 [(1, 0), (1, 0), (1, 0), (1, 0), (1, 0)] [(0, t13)] h 0 := by
    intro t13 he
    replace hw := hw t13 he
    clear he
    exact V.iret hc hr dX1_reachFromZero_97 hw
  obtain ⟨g6, q16⟩ := q14
  refine V.if_le hc (tgt := 96) dX1_reachFromZero_64 (by decide) g6 (fun c17 => ?_) (fun c17 => ?_)
  · refine V.iconst hc dX1_reachFromZero_96 ?_
    refine V.drop (lo' := [(1, 0), (1, 0), (1, 0), (1, 0), (1, 0)]) ⟨Or.inl rfl, Or.inl rfl, Or.inr rfl, Or.inl rfl, Or.inr rfl, trivial⟩ ?_
    exact kJ15 _ ⟨fun _ => rfl, (fun q => absurd c17 q)⟩
  · have q18 := q16 c17
    obtain ⟨g7, g8, q19⟩ := q18
    refine V.aload_n (t := 1) hc dX1_reachFromZero_67 rfl rfl ?_
    refine V.gR hc gR_X1_11 (i' := o) rfl dX1_reachFromZero_68 ?_
    refine V.iload_n hc dX1_reachFromZero_71 rfl rfl ?_
    refine V.ald hc ak_13 g7 dX1_reachFromZero_72 ?_
    refine V.if_le hc (tgt := 96) dX1_reachFromZero_73 (by decide) g8 (fun c20 => ?_) (fun c20 => ?_)
    · refine V.iconst hc dX1_reachFromZero_96 ?_
      refine V.drop (lo' := [(1, 0), (1, 0), (1, 0), (1, 0), (1, 0)]) ⟨Or.inl rfl, Or.inl rfl, Or.inr rfl, Or.inl rfl, Or.inr rfl, trivial⟩ ?_
      exact kJ15 _ ⟨(fun q => absurd q c17), fun _ => ⟨fun _ => rfl, (fun q => absurd c20 q)⟩⟩
    · have q21 := q19 c20
      obtain ⟨g9, g10, g11, g12⟩ := q21
      refine V.iload_n hc dX1_reachFromZero_76 rfl rfl ?_
      refine V.aload_n (t := 1) hc dX1_reachFromZero_77 rfl rfl ?_
      refine V.gR hc gR_X1_11 (i' := o) rfl dX1_reachFromZero_78 ?_
      refine V.iload_n hc dX1_reachFromZero_81 rfl rfl ?_
      refine V.ald hc ak_13 g9 dX1_reachFromZero_82 ?_
      refine V.iadd hc dX1_reachFromZero_83 ?_
      refine V.iconst hc dX1_reachFromZero_84 ?_
      refine V.isub hc dX1_reachFromZero_85 ?_
      refine V.aload_n (t := 1) hc dX1_reachFromZero_86 rfl rfl ?_
      refine V.gR hc gR_X1_11 (i' := o) rfl dX1_reachFromZero_87 ?_
      refine V.iload_n hc dX1_reachFromZero_90 rfl rfl ?_
      refine V.ald hc ak_13 g10 dX1_reachFromZero_91 ?_
      refine V.idiv hc g11 g12 dX1_reachFromZero_92 ?_
      refine V.goto hc (tgt := 97) dX1_reachFromZero_93 (by decide) ?_
      refine V.drop (lo' := [(1, 0), (1, 0), (1, 0), (1, 0), (1, 0)]) ⟨Or.inl rfl, Or.inl rfl, Or.inr rfl, Or.inl rfl, Or.inr rfl, trivial⟩ ?_
      exact kJ15 _ ⟨(fun q => absurd q c17), fun _ => ⟨(fun q => absurd q c20), fun _ => rfl⟩⟩
theorem qX1_reachFromZero (G : GG) (l : Launch) (o : Int) (a1 : Int) (a2 : Int) (h : HP) (P : Int → HP → Prop) (hw : wX1_reachFromZero o a1 a2 h P) : CnI l G yX1_reachFromZero cX1_reachFromZero 5 (some .int) 8 [(11, o), (0, a1), (0, a2)] h P := by
  refine CnI.of (lo := [(11, o), (0, a1), (0, a2), (1, 0), (1, 0)]) (by decide) rfl rfl rfl ?_
  intro p e s m args below meth c hc hr
  have hc : VC G p (rmD 8 0) s m args meth c RX1 cX1_reachFromZero 5 8 := hc
  refine V.bipush hc dX1_reachFromZero_0 (by decide) ?_
  refine V.iload_n hc dX1_reachFromZero_2 rfl rfl ?_
  refine V.imul hc dX1_reachFromZero_3 ?_
  refine V.istore_n hc dX1_reachFromZero_4 rfl rfl (lo' := [(11, o), (0, a1), (0, a2), (0, 100 * a2), (1, 0)]) rfl ?_
  refine V.aload_n (t := 1) hc dX1_reachFromZero_5 rfl rfl ?_
  refine V.gR hc gR_X1_11 (i' := o) rfl dX1_reachFromZero_6 ?_
  refine V.iload_n hc dX1_reachFromZero_9 rfl rfl ?_
  obtain ⟨g1, hw⟩ := hw
  refine V.ald hc ak_13 g1 dX1_reachFromZero_10 ?_
  refine V.aload_n (t := 1) hc dX1_reachFromZero_11 rfl rfl ?_
  refine V.gR hc gR_X1_15 (i' := o) rfl dX1_reachFromZero_12 ?_
  refine V.iload_n hc dX1_reachFromZero_15 rfl rfl ?_
  obtain ⟨g2, hw⟩ := hw
  refine V.ald hc ak_14 g2 dX1_reachFromZero_16 ?_
  refine V.imul hc dX1_reachFromZero_17 ?_
  refine V.istore hc dX1_reachFromZero_18 rfl (lo' := [(11, o), (0, a1), (0, a2), (0, 100 * a2), (0, (h 13 o a1) * (h 14 o a1))]) rfl ?_
  refine V.iload_n hc dX1_reachFromZero_20 rfl rfl ?_
  refine V.iload hc dX1_reachFromZero_21 rfl ?_
  obtain ⟨g3, hw⟩ := hw
  obtain ⟨g4, hw⟩ := hw
  refine V.icmp_le hc (tgt := 63) dX1_reachFromZero_23 (by decide) g3 g4 (fun c5 => ?_) (fun c5 => ?_)
  · replace hw := hw.1 c5
    refine V.drop (lo' := [(11, o), (0, a1), (1, 0), (0, 100 * a2), (1, 0)]) ⟨Or.inr rfl, Or.inr rfl, Or.inl rfl, Or.inr rfl, Or.inl rfl, trivial⟩ ?_
    exact tX1_reachFromZero_63 hc hr  hw
  · replace hw := hw.2 c5
    refine V.aload_n (t := 1) hc dX1_reachFromZero_26 rfl rfl ?_
    refine V.gR hc gR_X1_18 (i' := o) rfl dX1_reachFromZero_27 ?_
    refine V.iload_n hc dX1_reachFromZero_30 rfl rfl ?_
    obtain ⟨g22, hw⟩ := hw
    refine V.ald hc ak_15 g22 dX1_reachFromZero_31 ?_
    obtain ⟨g23, hw⟩ := hw
    refine V.if_le hc (tgt := 63) dX1_reachFromZero_32 (by decide) g23 (fun c24 => ?_) (fun c24 => ?_)
    · replace hw := hw.1 c24
      refine V.drop (lo' := [(11, o), (0, a1), (1, 0), (0, 100 * a2), (1, 0)]) ⟨Or.inr rfl, Or.inr rfl, Or.inl rfl, Or.inr rfl, Or.inl rfl, trivial⟩ ?_
      exact tX1_reachFromZero_63 hc hr  hw
    · replace hw := hw.2 c24
      refine V.aload_n (t := 1) hc dX1_reachFromZero_35 rfl rfl ?_
      refine V.gR hc gR_X1_15 (i' := o) rfl dX1_reachFromZero_36 ?_
      refine V.iload_n hc dX1_reachFromZero_39 rfl rfl ?_
      obtain ⟨g25, hw⟩ := hw
      refine V.ald hc ak_14 g25 dX1_reachFromZero_40 ?_
      refine V.iload_n hc dX1_reachFromZero_41 rfl rfl ?_
      refine V.iload hc dX1_reachFromZero_42 rfl ?_
      refine V.isub hc dX1_reachFromZero_44 ?_
      refine V.aload_n (t := 1) hc dX1_reachFromZero_45 rfl rfl ?_
      refine V.gR hc gR_X1_18 (i' := o) rfl dX1_reachFromZero_46 ?_
      refine V.iload_n hc dX1_reachFromZero_49 rfl rfl ?_
      obtain ⟨g26, hw⟩ := hw
      refine V.ald hc ak_15 g26 dX1_reachFromZero_50 ?_
      refine V.iadd hc dX1_reachFromZero_51 ?_
      refine V.iconst hc dX1_reachFromZero_52 ?_
      refine V.isub hc dX1_reachFromZero_53 ?_
      refine V.aload_n (t := 1) hc dX1_reachFromZero_54 rfl rfl ?_
      refine V.gR hc gR_X1_18 (i' := o) rfl dX1_reachFromZero_55 ?_
      refine V.iload_n hc dX1_reachFromZero_58 rfl rfl ?_
      obtain ⟨g27, hw⟩ := hw
      refine V.ald hc ak_15 g27 dX1_reachFromZero_59 ?_
      obtain ⟨g28, hw⟩ := hw
      obtain ⟨g29, hw⟩ := hw
      refine V.idiv hc g28 g29 dX1_reachFromZero_60 ?_
      refine V.iadd hc dX1_reachFromZero_61 ?_
      exact V.iret hc hr dX1_reachFromZero_62 hw
def wJ7_fill_53178_5 (k0 : Nat) (i0 : Int) (a1 : Int) (k0_ : Nat) (i0_ : Int) (l3 : Int) (K20 : HP → Prop) : Nat → Int → HP → Prop
  | 0, _, _ => False
  | f + 1, l2, h => (-2147483648 ≤ l2 ∧ l2 < 2147483648) ∧ (-2147483648 ≤ l3 ∧ l3 < 2147483648) ∧ ((l3 ≤ l2 → K20 h) ∧ (¬ l3 ≤ l2 → kCls k0_ = 99 ∧ (0 ≤ l2 ∧ l2 < ((kLen k0_ : Nat) : Int)) ∧ ∀ h5 : HP, h5 = up h k0_ i0_ l2 a1 → wJ7_fill_53178_5 k0 i0 a1 k0_ i0_ l3 K20 f (l2 + 1) h5))
def wJ7_fill_53178 (k0 : Nat) (i0 : Int) (a1 : Int) (h : HP) (P : HP → Prop) : Prop := kCls k0 = 99 ∧ (∃ f8 : Nat, wJ7_fill_53178_5 k0 i0 a1 k0 i0 ((kLen k0 : Nat) : Int) (fun h9 => P h9) f8 0 h)
theorem tJ7_fill_53178_5 {G : GG} {p : Program} {l : Launch} {e : Jvm.Env} {s : State} {m : MethodId} {args : Array Value} {below : List Frame} {meth : Method} {c : Code} {P : HP → Prop} (hc : VC G p (rmD 8 0) s m args meth c RJ7 cJ7_fill_53178 4 8) (hr : meth.sig.returnType = none) {k0 : Nat} {i0 : Int} {a1 : Int} {k0_ : Nat} {i0_ : Int} {l3 : Int} {K20 : HP → Prop} (hK20 : ∀  (h : HP), K20  h → V G p l e (rmD 8 0) s m args below meth c (MQ below (QV G P) args s 0 0 (va_Aof G)) 4 20 [(1, 0), (1, 0), (1, 0), (1, 0)] [] h 0) : ∀ (f : Nat) (l2 : Int) (h : HP), wJ7_fill_53178_5 k0 i0 a1 k0_ i0_ l3 K20 f l2 h → V G p l e (rmD 8 0) s m args below meth c (MQ below (QV G P) args s 0 0 (va_Aof G)) 4 5 [(k0_ + 10, i0_), (0, a1), (0, l2), (0, l3)] [] h 0 := by
  intro f
  induction f with
  | zero =>
    intro l2 h hw
    exact hw.elim
  | succ f ih =>
    intro l2 h hw
    refine V.iload_n hc dJ7_fill_53178_5 rfl rfl ?_
    refine V.iload_n hc dJ7_fill_53178_6 rfl rfl ?_
    obtain ⟨g2, hw⟩ := hw
    obtain ⟨g3, hw⟩ := hw
    refine V.icmp_ge hc (tgt := 20) dJ7_fill_53178_7 (by decide) g2 g3 (fun c4 => ?_) (fun c4 => ?_)
    · replace hw := hw.1 c4
      refine V.drop (lo' := [(1, 0), (1, 0), (1, 0), (1, 0)]) ⟨Or.inl rfl, Or.inl rfl, Or.inl rfl, Or.inl rfl, trivial⟩ ?_
      exact hK20 _ hw
    · replace hw := hw.2 c4
      refine V.aload_n (t := k0_) hc dJ7_fill_53178_10 rfl rfl ?_
      refine V.iload_n hc dJ7_fill_53178_11 rfl rfl ?_
      refine V.iload_n hc dJ7_fill_53178_12 rfl rfl ?_
      obtain ⟨g6, hw⟩ := hw
      obtain ⟨g7, hw⟩ := hw
      refine V.ast hc ⟨g6, rfl⟩ g7 dJ7_fill_53178_13 (fun h5 e => ?_)
      replace hw := hw h5 e
      clear e
      refine V.iinc hc dJ7_fill_53178_14 rfl rfl (lo' := [(k0_ + 10, i0_), (0, a1), (0, l2 + 1), (0, l3)]) rfl ?_
      refine V.goto hc (tgt := 5) dJ7_fill_53178_17 (by decide) ?_
      exact ih _ _ hw
theorem qJ7_fill_53178 (G : GG) (l : Launch) (k0 : Nat) (i0 : Int) (a1 : Int) (h : HP) (P : HP → Prop) (hw : wJ7_fill_53178 k0 i0 a1 h P) : CnV l G yJ7_fill_53178 cJ7_fill_53178 4 8 [(k0 + 10, i0), (0, a1)] h P := by
  refine CnV.of (lo := [(k0 + 10, i0), (0, a1), (1, 0), (1, 0)]) (by decide) rfl rfl rfl ?_
  intro p e s m args below meth c hc hr
  have hc : VC G p (rmD 8 0) s m args meth c RJ7 cJ7_fill_53178 4 8 := hc
  refine V.iconst hc dJ7_fill_53178_0 ?_
  refine V.istore_n hc dJ7_fill_53178_1 rfl rfl (lo' := [(k0 + 10, i0), (0, a1), (0, 0), (1, 0)]) rfl ?_
  refine V.aload_n (t := k0) hc dJ7_fill_53178_2 rfl rfl ?_
  obtain ⟨g1, hw⟩ := hw
  refine V.aln hc ⟨g1, rfl⟩ dJ7_fill_53178_3 ?_
  refine V.istore_n hc dJ7_fill_53178_4 rfl rfl (lo' := [(k0 + 10, i0), (0, a1), (0, 0), (0, ((kLen k0 : Nat) : Int))]) rfl ?_
  obtain ⟨f8, hw⟩ := hw
  refine tJ7_fill_53178_5 hc hr ?_ f8 _ _ hw
  · intro h9 hw
    exact V.vret hc hr dJ7_fill_53178_20 hw
def wX8_clear (o : Int) (h : HP) (P : HP → Prop) : Prop := ∀ h1 : HP, h1 = up h 8 o 0 0 → ∀ h2 : HP, h2 = up h1 8 o 1 0 → wJ7_fill_53178 38 o 0 h2 (fun h3 => wX1_clear o h3 (fun h4 => P h4))
theorem qX8_clear (G : GG) (l : Launch) (o : Int) (h : HP) (P : HP → Prop) (hw : wX8_clear o h P) : CnV l G yX8_clear cX8_clear 1 10 [(18, o)] h P := by
  refine CnV.of (lo := [(18, o)]) (by decide) rfl rfl rfl ?_
  intro p e s m args below meth c hc hr
  have hc : VC G p (rmD 10 0) s m args meth c RX8 cX8_clear 1 10 := hc
  refine V.aload_n (t := 8) hc dX8_clear_0 rfl rfl ?_
  refine V.iconst hc dX8_clear_1 ?_
  refine V.pI hc pI_X8_9 rfl dX8_clear_2 (fun h1 e => ?_)
  replace hw := hw h1 e
  clear e
  refine V.aload_n (t := 8) hc dX8_clear_5 rfl rfl ?_
  refine V.iconst hc dX8_clear_6 ?_
  refine V.pI hc pI_X8_15 rfl dX8_clear_7 (fun h2 e => ?_)
  replace hw := hw h2 e
  clear e
  refine V.aload_n (t := 8) hc dX8_clear_10 rfl rfl ?_
  refine V.gR hc gR_X8_22 (i' := o) rfl dX8_clear_11 ?_
  refine V.iconst hc dX8_clear_14 ?_
  refine V.callSV hc (qJ7_fill_53178 G l _ _ _ _ _ hw) mo_J7_fill_53178 ml_X8_47 (as := [(48, o), (0, 0)]) rfl rfl rfl rfl rfl ⟨Nat.zero_le _, Nat.zero_le _⟩ dX8_clear_15 (fun h3 hw => ?_)
  refine V.aload_n (t := 8) hc dX8_clear_18 rfl rfl ?_
  refine V.gR hc gR_X8_43 (i' := o) rfl dX8_clear_19 ?_
  refine V.callVV hc (qX1_clear G l _ _ _ hw) mo_X1_clear ml_X8_53 (by rfl) rfl rfl (as := []) rfl rfl rfl rfl rfl ⟨Nat.zero_le _, Nat.zero_le _⟩ dX8_clear_22 (fun h4 hw => ?_)
  exact V.vret hc hr dX8_clear_25 hw
def wX8_copyFrom (o : Int) (o1 : Int) (h : HP) (P : HP → Prop) : Prop := ∀ h1 : HP, h1 = up h 8 o 0 (h 8 o1 0) → ∀ h2 : HP, h2 = up h1 8 o 1 (h1 8 o1 1) → ((0 : Int) ≤ 0 ∧ (0 : Int) ≤ 0 ∧ (0 : Int) ≤ 12 ∧ (0 + 12 : Int) ≤ 12 ∧ (0 + 12 : Int) ≤ 12) ∧ ∀ h3 : HP, h3 = upr h2 37 o (fun j => if 0 ≤ j ∧ j < 0 + 12 then h2 37 o1 (0 + (j - 0)) else h2 37 o j) → ((0 : Int) ≤ 0 ∧ (0 : Int) ≤ 0 ∧ (0 : Int) ≤ 13 ∧ (0 + 13 : Int) ≤ 13 ∧ (0 + 13 : Int) ≤ 13) ∧ ∀ h5 : HP, h5 = upr h3 38 o (fun j => if 0 ≤ j ∧ j < 0 + 13 then h3 38 o1 (0 + (j - 0)) else h3 38 o j) → ((0 : Int) ≤ 0 ∧ (0 : Int) ≤ 0 ∧ (0 : Int) ≤ 156 ∧ (0 + 156 : Int) ≤ 156 ∧ (0 + 156 : Int) ≤ 156) ∧ ∀ h7 : HP, h7 = upr h5 39 o (fun j => if 0 ≤ j ∧ j < 0 + 156 then h5 39 o1 (0 + (j - 0)) else h5 39 o j) → ((0 : Int) ≤ 0 ∧ (0 : Int) ≤ 0 ∧ (0 : Int) ≤ 8 ∧ (0 + 8 : Int) ≤ 8 ∧ (0 + 8 : Int) ≤ 8) ∧ ∀ h9 : HP, h9 = upr h7 40 o (fun j => if 0 ≤ j ∧ j < 0 + 8 then h7 40 o1 (0 + (j - 0)) else h7 40 o j) → ((0 : Int) ≤ 0 ∧ (0 : Int) ≤ 0 ∧ (0 : Int) ≤ 8 ∧ (0 + 8 : Int) ≤ 8 ∧ (0 + 8 : Int) ≤ 8) ∧ ∀ h11 : HP, h11 = upr h9 41 o (fun j => if 0 ≤ j ∧ j < 0 + 8 then h9 41 o1 (0 + (j - 0)) else h9 41 o j) → ((0 : Int) ≤ 0 ∧ (0 : Int) ≤ 0 ∧ (0 : Int) ≤ 8 ∧ (0 + 8 : Int) ≤ 8 ∧ (0 + 8 : Int) ≤ 8) ∧ ∀ h13 : HP, h13 = upr h11 42 o (fun j => if 0 ≤ j ∧ j < 0 + 8 then h11 42 o1 (0 + (j - 0)) else h11 42 o j) → ((0 : Int) ≤ 0 ∧ (0 : Int) ≤ 0 ∧ (0 : Int) ≤ 8 ∧ (0 + 8 : Int) ≤ 8 ∧ (0 + 8 : Int) ≤ 8) ∧ ∀ h15 : HP, h15 = upr h13 43 o (fun j => if 0 ≤ j ∧ j < 0 + 8 then h13 43 o1 (0 + (j - 0)) else h13 43 o j) → wX1_copyFrom o o1 12 h15 (fun h17 => P h17)
theorem qX8_copyFrom (G : GG) (l : Launch) (o : Int) (o1 : Int) (h : HP) (P : HP → Prop) (hw : wX8_copyFrom o o1 h P) : CnV l G yX8_copyFrom cX8_copyFrom 2 9 [(18, o), (18, o1)] h P := by
  refine CnV.of (lo := [(18, o), (18, o1)]) (by decide) rfl rfl rfl ?_
  intro p e s m args below meth c hc hr
  have hc : VC G p (rmD 9 0) s m args meth c RX8 cX8_copyFrom 2 9 := hc
  refine V.aload_n (t := 8) hc dX8_copyFrom_0 rfl rfl ?_
  refine V.aload_n (t := 8) hc dX8_copyFrom_1 rfl rfl ?_
  refine V.gI hc gI_X8_9 rfl dX8_copyFrom_2 ?_
  refine V.pI hc pI_X8_9 rfl dX8_copyFrom_5 (fun h1 e => ?_)
  replace hw := hw h1 e
  clear e
  refine V.aload_n (t := 8) hc dX8_copyFrom_8 rfl rfl ?_
  refine V.aload_n (t := 8) hc dX8_copyFrom_9 rfl rfl ?_
  refine V.gI hc gI_X8_15 rfl dX8_copyFrom_10 ?_
  refine V.pI hc pI_X8_15 rfl dX8_copyFrom_13 (fun h2 e => ?_)
  replace hw := hw h2 e
  clear e
  refine V.aload_n (t := 8) hc dX8_copyFrom_16 rfl rfl ?_
  refine V.gR hc gR_X8_18 (i' := o1) rfl dX8_copyFrom_17 ?_
  refine V.iconst hc dX8_copyFrom_20 ?_
  refine V.aload_n (t := 8) hc dX8_copyFrom_21 rfl rfl ?_
  refine V.gR hc gR_X8_18 (i' := o) rfl dX8_copyFrom_22 ?_
  refine V.iconst hc dX8_copyFrom_25 ?_
  refine V.aload_n (t := 8) hc dX8_copyFrom_26 rfl rfl ?_
  refine V.gR hc gR_X8_18 (i' := o) rfl dX8_copyFrom_27 ?_
  refine V.aln hc ak_37 dX8_copyFrom_30 ?_
  obtain ⟨g4, hw⟩ := hw
  refine V.acp hc ml_X8_56 rfl ak_37 ak_37 g4 dX8_copyFrom_31 (fun h3 e => ?_)
  replace hw := hw h3 e
  clear e
  refine V.aload_n (t := 8) hc dX8_copyFrom_34 rfl rfl ?_
  refine V.gR hc gR_X8_22 (i' := o1) rfl dX8_copyFrom_35 ?_
  refine V.iconst hc dX8_copyFrom_38 ?_
  refine V.aload_n (t := 8) hc dX8_copyFrom_39 rfl rfl ?_
  refine V.gR hc gR_X8_22 (i' := o) rfl dX8_copyFrom_40 ?_
  refine V.iconst hc dX8_copyFrom_43 ?_
  refine V.aload_n (t := 8) hc dX8_copyFrom_44 rfl rfl ?_
  refine V.gR hc gR_X8_22 (i' := o) rfl dX8_copyFrom_45 ?_
  refine V.aln hc ak_38 dX8_copyFrom_48 ?_
  obtain ⟨g6, hw⟩ := hw
  refine V.acp hc ml_X8_56 rfl ak_38 ak_38 g6 dX8_copyFrom_49 (fun h5 e => ?_)
  replace hw := hw h5 e
  clear e
  refine V.aload_n (t := 8) hc dX8_copyFrom_52 rfl rfl ?_
  refine V.gR hc gR_X8_25 (i' := o1) rfl dX8_copyFrom_53 ?_
  refine V.iconst hc dX8_copyFrom_56 ?_
  refine V.aload_n (t := 8) hc dX8_copyFrom_57 rfl rfl ?_
  refine V.gR hc gR_X8_25 (i' := o) rfl dX8_copyFrom_58 ?_
  refine V.iconst hc dX8_copyFrom_61 ?_
  refine V.aload_n (t := 8) hc dX8_copyFrom_62 rfl rfl ?_
  refine V.gR hc gR_X8_25 (i' := o) rfl dX8_copyFrom_63 ?_
  refine V.aln hc ak_39 dX8_copyFrom_66 ?_
  obtain ⟨g8, hw⟩ := hw
  refine V.acp hc ml_X8_56 rfl ak_39 ak_39 g8 dX8_copyFrom_67 (fun h7 e => ?_)
  replace hw := hw h7 e
  clear e
  refine V.aload_n (t := 8) hc dX8_copyFrom_70 rfl rfl ?_
  refine V.gR hc gR_X8_28 (i' := o1) rfl dX8_copyFrom_71 ?_
  refine V.iconst hc dX8_copyFrom_74 ?_
  refine V.aload_n (t := 8) hc dX8_copyFrom_75 rfl rfl ?_
  refine V.gR hc gR_X8_28 (i' := o) rfl dX8_copyFrom_76 ?_
  refine V.iconst hc dX8_copyFrom_79 ?_
  refine V.aload_n (t := 8) hc dX8_copyFrom_80 rfl rfl ?_
  refine V.gR hc gR_X8_28 (i' := o) rfl dX8_copyFrom_81 ?_
  refine V.aln hc ak_40 dX8_copyFrom_84 ?_
  obtain ⟨g10, hw⟩ := hw
  refine V.acp hc ml_X8_56 rfl ak_40 ak_40 g10 dX8_copyFrom_85 (fun h9 e => ?_)
  replace hw := hw h9 e
  clear e
  refine V.aload_n (t := 8) hc dX8_copyFrom_88 rfl rfl ?_
  refine V.gR hc gR_X8_31 (i' := o1) rfl dX8_copyFrom_89 ?_
  refine V.iconst hc dX8_copyFrom_92 ?_
  refine V.aload_n (t := 8) hc dX8_copyFrom_93 rfl rfl ?_
  refine V.gR hc gR_X8_31 (i' := o) rfl dX8_copyFrom_94 ?_
  refine V.iconst hc dX8_copyFrom_97 ?_
  refine V.aload_n (t := 8) hc dX8_copyFrom_98 rfl rfl ?_
  refine V.gR hc gR_X8_31 (i' := o) rfl dX8_copyFrom_99 ?_
  refine V.aln hc ak_41 dX8_copyFrom_102 ?_
  obtain ⟨g12, hw⟩ := hw
  refine V.acp hc ml_X8_56 rfl ak_41 ak_41 g12 dX8_copyFrom_103 (fun h11 e => ?_)
  replace hw := hw h11 e
  clear e
  refine V.aload_n (t := 8) hc dX8_copyFrom_106 rfl rfl ?_
  refine V.gR hc gR_X8_34 (i' := o1) rfl dX8_copyFrom_107 ?_
  refine V.iconst hc dX8_copyFrom_110 ?_
  refine V.aload_n (t := 8) hc dX8_copyFrom_111 rfl rfl ?_
  refine V.gR hc gR_X8_34 (i' := o) rfl dX8_copyFrom_112 ?_
  refine V.iconst hc dX8_copyFrom_115 ?_
  refine V.aload_n (t := 8) hc dX8_copyFrom_116 rfl rfl ?_
  refine V.gR hc gR_X8_34 (i' := o) rfl dX8_copyFrom_117 ?_
  refine V.aln hc ak_42 dX8_copyFrom_120 ?_
  obtain ⟨g14, hw⟩ := hw
  refine V.acp hc ml_X8_56 rfl ak_42 ak_42 g14 dX8_copyFrom_121 (fun h13 e => ?_)
  replace hw := hw h13 e
  clear e
  refine V.aload_n (t := 8) hc dX8_copyFrom_124 rfl rfl ?_
  refine V.gR hc gR_X8_37 (i' := o1) rfl dX8_copyFrom_125 ?_
  refine V.iconst hc dX8_copyFrom_128 ?_
  refine V.aload_n (t := 8) hc dX8_copyFrom_129 rfl rfl ?_
  refine V.gR hc gR_X8_37 (i' := o) rfl dX8_copyFrom_130 ?_
  refine V.iconst hc dX8_copyFrom_133 ?_
  refine V.aload_n (t := 8) hc dX8_copyFrom_134 rfl rfl ?_
  refine V.gR hc gR_X8_37 (i' := o) rfl dX8_copyFrom_135 ?_
  refine V.aln hc ak_43 dX8_copyFrom_138 ?_
  obtain ⟨g16, hw⟩ := hw
  refine V.acp hc ml_X8_56 rfl ak_43 ak_43 g16 dX8_copyFrom_139 (fun h15 e => ?_)
  replace hw := hw h15 e
  clear e
  refine V.aload_n (t := 8) hc dX8_copyFrom_142 rfl rfl ?_
  refine V.gR hc gR_X8_43 (i' := o) rfl dX8_copyFrom_143 ?_
  refine V.aload_n (t := 8) hc dX8_copyFrom_146 rfl rfl ?_
  refine V.gR hc gR_X8_43 (i' := o1) rfl dX8_copyFrom_147 ?_
  refine V.bipush hc dX8_copyFrom_150 (by decide) ?_
  refine V.callVV hc (qX1_copyFrom G l _ _ _ _ _ hw) mo_X1_copyFrom ml_X8_62 (by rfl) rfl rfl (as := [(11, o1), (0, 12)]) rfl rfl rfl rfl rfl ⟨Nat.zero_le _, Nat.zero_le _⟩ dX8_copyFrom_152 (fun h17 hw => ?_)
  exact V.vret hc hr dX8_copyFrom_155 hw
def wX8_hasClass (o : Int) (a1 : Int) (h : HP) (P : Int → HP → Prop) : Prop := ((-2147483648 ≤ a1 ∧ a1 < 2147483648) ∧ (¬ a1 < 0 → ((-2147483648 ≤ a1 ∧ a1 < 2147483648) ∧ (-2147483648 ≤ h 8 o 0 ∧ h 8 o 0 < 2147483648)))) ∧ ∀ t4 : Int, ((a1 < 0 → t4 = 0) ∧ (¬ a1 < 0 → ((h 8 o 0 ≤ a1 → t4 = 0) ∧ (¬ h 8 o 0 ≤ a1 → t4 = 1)))) → (t4 = 0 ∨ t4 = 1) ∧ P t4 h
theorem qX8_hasClass (G : GG) (l : Launch) (o : Int) (a1 : Int) (h : HP) (P : Int → HP → Prop) (hw : wX8_hasClass o a1 h P) : CnI l G yX8_hasClass cX8_hasClass 2 (some .boolean) 8 [(18, o), (0, a1)] h P := by
  refine CnI.of (lo := [(18, o), (0, a1)]) (by decide) rfl rfl rfl ?_
  intro p e s m args below meth c hc hr
  have hc : VC G p (rmD 8 0) s m args meth c RX8 cX8_hasClass 2 8 := hc
  refine V.iload_n hc dX8_hasClass_0 rfl rfl ?_
  obtain ⟨q5, hw⟩ := hw
  have kJ7 : ∀ t4 : Int, ((a1 < 0 → t4 = 0) ∧ (¬ a1 < 0 → ((h 8 o 0 ≤ a1 → t4 = 0) ∧ (¬ h 8 o 0 ≤ a1 → t4 = 1)))) → V G p l e (rmD 8 0) s m args below meth c (MQ below (QI G P) args s 0 0 (va_Aof G)) 2 17 [(1, 0), (1, 0)] [(0, t4)] h 0 := by
    intro t4 he
    replace hw := hw t4 he
    clear he
    obtain ⟨g6, hw⟩ := hw
    exact V.zret hc hr dX8_hasClass_17 g6 hw
  obtain ⟨g1, q8⟩ := q5
  refine V.if_lt hc (tgt := 16) dX8_hasClass_1 (by decide) g1 (fun c9 => ?_) (fun c9 => ?_)
  · refine V.iconst hc dX8_hasClass_16 ?_
    refine V.drop (lo' := [(1, 0), (1, 0)]) ⟨Or.inl rfl, Or.inl rfl, trivial⟩ ?_
    exact kJ7 _ ⟨fun _ => rfl, (fun q => absurd c9 q)⟩
  · have q10 := q8 c9
    obtain ⟨g2, g3⟩ := q10
    refine V.iload_n hc dX8_hasClass_4 rfl rfl ?_
    refine V.aload_n (t := 8) hc dX8_hasClass_5 rfl rfl ?_
    refine V.gI hc gI_X8_9 rfl dX8_hasClass_6 ?_
    refine V.icmp_ge hc (tgt := 16) dX8_hasClass_9 (by decide) g2 g3 (fun c11 => ?_) (fun c11 => ?_)
    · refine V.iconst hc dX8_hasClass_16 ?_
      refine V.drop (lo' := [(1, 0), (1, 0)]) ⟨Or.inl rfl, Or.inl rfl, trivial⟩ ?_
      exact kJ7 _ ⟨(fun q => absurd q c9), fun _ => ⟨fun _ => rfl, (fun q => absurd c11 q)⟩⟩
    · refine V.iconst hc dX8_hasClass_12 ?_
      refine V.goto hc (tgt := 17) dX8_hasClass_13 (by decide) ?_
      refine V.drop (lo' := [(1, 0), (1, 0)]) ⟨Or.inl rfl, Or.inl rfl, trivial⟩ ?_
      exact kJ7 _ ⟨(fun q => absurd q c9), fun _ => ⟨(fun q => absurd q c11), fun _ => rfl⟩⟩
def wX8_hasLeaf (o : Int) (a1 : Int) (h : HP) (P : Int → HP → Prop) : Prop := wX8_hasClass o a1 h (fun x2 h1 => (-2147483648 ≤ x2 ∧ x2 < 2147483648) ∧ ((x2 = 0 → P 0 h1) ∧ (¬ x2 = 0 → wX8_isLeaf o a1 h1 (fun x6 h5 => (-2147483648 ≤ x6 ∧ x6 < 2147483648) ∧ ((x6 = 0 → P 0 h5) ∧ (¬ x6 = 0 → P 1 h5))))))
theorem qX8_hasLeaf (G : GG) (l : Launch) (o : Int) (a1 : Int) (h : HP) (P : Int → HP → Prop) (hw : wX8_hasLeaf o a1 h P) : CnI l G yX8_hasLeaf cX8_hasLeaf 2 (some .boolean) 9 [(18, o), (0, a1)] h P := by
  refine CnI.of (lo := [(18, o), (0, a1)]) (by decide) rfl rfl rfl ?_
  intro p e s m args below meth c hc hr
  have hc : VC G p (rmD 9 0) s m args meth c RX8 cX8_hasLeaf 2 9 := hc
  refine V.aload_n (t := 8) hc dX8_hasLeaf_0 rfl rfl ?_
  refine V.iload_n hc dX8_hasLeaf_1 rfl rfl ?_
  refine V.callVI hc (qX8_hasClass G l _ _ _ _ hw) mo_X8_hasClass ml_X8_66 (by rfl) rfl rfl (as := [(0, a1)]) rfl rfl rfl rfl rfl ⟨Nat.zero_le _, Nat.zero_le _⟩ dX8_hasLeaf_2 (fun x2 h1 hw => ?_)
  obtain ⟨g3, hw⟩ := hw
  refine V.if_eq hc (tgt := 20) dX8_hasLeaf_5 (by decide) g3 (fun c4 => ?_) (fun c4 => ?_)
  · replace hw := hw.1 c4
    refine V.iconst hc dX8_hasLeaf_20 ?_
    exact V.zret hc hr dX8_hasLeaf_21 (by omega) hw
  · replace hw := hw.2 c4
    refine V.aload_n (t := 8) hc dX8_hasLeaf_8 rfl rfl ?_
    refine V.iload_n hc dX8_hasLeaf_9 rfl rfl ?_
    refine V.callVI hc (qX8_isLeaf G l _ _ _ _ hw) mo_X8_isLeaf ml_X8_70 (by rfl) rfl rfl (as := [(0, a1)]) rfl rfl rfl rfl rfl ⟨Nat.zero_le _, Nat.zero_le _⟩ dX8_hasLeaf_10 (fun x6 h5 hw => ?_)
    obtain ⟨g7, hw⟩ := hw
    refine V.if_eq hc (tgt := 20) dX8_hasLeaf_13 (by decide) g7 (fun c8 => ?_) (fun c8 => ?_)
    · replace hw := hw.1 c8
      refine V.iconst hc dX8_hasLeaf_20 ?_
      exact V.zret hc hr dX8_hasLeaf_21 (by omega) hw
    · replace hw := hw.2 c8
      refine V.iconst hc dX8_hasLeaf_16 ?_
      refine V.goto hc (tgt := 21) dX8_hasLeaf_17 (by decide) ?_
      exact V.zret hc hr dX8_hasLeaf_21 (by omega) hw
def wX8_hasFlow (o : Int) (a1 : Int) (h : HP) (P : Int → HP → Prop) : Prop := ((-2147483648 ≤ a1 ∧ a1 < 2147483648) ∧ (¬ a1 < 0 → ((-2147483648 ≤ a1 ∧ a1 < 2147483648) ∧ (-2147483648 ≤ h 8 o 1 ∧ h 8 o 1 < 2147483648)))) ∧ ∀ t4 : Int, ((a1 < 0 → t4 = 0) ∧ (¬ a1 < 0 → ((h 8 o 1 ≤ a1 → t4 = 0) ∧ (¬ h 8 o 1 ≤ a1 → t4 = 1)))) → (t4 = 0 ∨ t4 = 1) ∧ P t4 h
theorem qX8_hasFlow (G : GG) (l : Launch) (o : Int) (a1 : Int) (h : HP) (P : Int → HP → Prop) (hw : wX8_hasFlow o a1 h P) : CnI l G yX8_hasFlow cX8_hasFlow 2 (some .boolean) 8 [(18, o), (0, a1)] h P := by
  refine CnI.of (lo := [(18, o), (0, a1)]) (by decide) rfl rfl rfl ?_
  intro p e s m args below meth c hc hr
  have hc : VC G p (rmD 8 0) s m args meth c RX8 cX8_hasFlow 2 8 := hc
  refine V.iload_n hc dX8_hasFlow_0 rfl rfl ?_
  obtain ⟨q5, hw⟩ := hw
  have kJ7 : ∀ t4 : Int, ((a1 < 0 → t4 = 0) ∧ (¬ a1 < 0 → ((h 8 o 1 ≤ a1 → t4 = 0) ∧ (¬ h 8 o 1 ≤ a1 → t4 = 1)))) → V G p l e (rmD 8 0) s m args below meth c (MQ below (QI G P) args s 0 0 (va_Aof G)) 2 17 [(1, 0), (1, 0)] [(0, t4)] h 0 := by
    intro t4 he
    replace hw := hw t4 he
    clear he
    obtain ⟨g6, hw⟩ := hw
    exact V.zret hc hr dX8_hasFlow_17 g6 hw
  obtain ⟨g1, q8⟩ := q5
  refine V.if_lt hc (tgt := 16) dX8_hasFlow_1 (by decide) g1 (fun c9 => ?_) (fun c9 => ?_)
  · refine V.iconst hc dX8_hasFlow_16 ?_
    refine V.drop (lo' := [(1, 0), (1, 0)]) ⟨Or.inl rfl, Or.inl rfl, trivial⟩ ?_
    exact kJ7 _ ⟨fun _ => rfl, (fun q => absurd c9 q)⟩
  · have q10 := q8 c9
    obtain ⟨g2, g3⟩ := q10
    refine V.iload_n hc dX8_hasFlow_4 rfl rfl ?_
    refine V.aload_n (t := 8) hc dX8_hasFlow_5 rfl rfl ?_
    refine V.gI hc gI_X8_15 rfl dX8_hasFlow_6 ?_
    refine V.icmp_ge hc (tgt := 16) dX8_hasFlow_9 (by decide) g2 g3 (fun c11 => ?_) (fun c11 => ?_)
    · refine V.iconst hc dX8_hasFlow_16 ?_
      refine V.drop (lo' := [(1, 0), (1, 0)]) ⟨Or.inl rfl, Or.inl rfl, trivial⟩ ?_
      exact kJ7 _ ⟨(fun q => absurd q c9), fun _ => ⟨fun _ => rfl, (fun q => absurd c11 q)⟩⟩
    · refine V.iconst hc dX8_hasFlow_12 ?_
      refine V.goto hc (tgt := 17) dX8_hasFlow_13 (by decide) ?_
      refine V.drop (lo' := [(1, 0), (1, 0)]) ⟨Or.inl rfl, Or.inl rfl, trivial⟩ ?_
      exact kJ7 _ ⟨(fun q => absurd q c9), fun _ => ⟨(fun q => absurd q c11), fun _ => rfl⟩⟩
def wX8_mayHoldClass_27 (o : Int) (a1 : Int) (h : HP) (K53 : Prop) (K45 : Prop) : Nat → Int → Prop
  | 0, _ => False
  | f + 1, l2 => (-2147483648 ≤ l2 ∧ l2 < 2147483648) ∧ (-2147483648 ≤ h 8 o 1 ∧ h 8 o 1 < 2147483648) ∧ ((h 8 o 1 ≤ l2 → K53) ∧ (¬ h 8 o 1 ≤ l2 → (0 ≤ l2 ∧ l2 < 8) ∧ (-2147483648 ≤ h 40 o l2 ∧ h 40 o l2 < 2147483648) ∧ (-2147483648 ≤ a1 ∧ a1 < 2147483648) ∧ ((¬ h 40 o l2 = a1 → wX8_mayHoldClass_27 o a1 h K53 K45 f (l2 + 1)) ∧ (h 40 o l2 = a1 → K45))))
def wX8_mayHoldClass (o : Int) (a1 : Int) (h : HP) (P : Int → HP → Prop) : Prop := wX8_hasClass o a1 h (fun x2 h1 => (-2147483648 ≤ x2 ∧ x2 < 2147483648) ∧ ((x2 = 0 → P 0 h1) ∧ (¬ x2 = 0 → wX1_has o ((a1 * 3) + 0) h1 (fun x6 h5 => (-2147483648 ≤ x6 ∧ x6 < 2147483648) ∧ ((x6 = 0 → (∃ f16 : Nat, wX8_mayHoldClass_27 o a1 h5 (P 1 h5) (P 0 h5) f16 0)) ∧ (¬ x6 = 0 → P 0 h5))))))
theorem tX8_mayHoldClass_27 {G : GG} {p : Program} {l : Launch} {e : Jvm.Env} {s : State} {m : MethodId} {args : Array Value} {below : List Frame} {meth : Method} {c : Code} {P : Int → HP → Prop} (hc : VC G p (rmD 9 0) s m args meth c RX8 cX8_mayHoldClass 3 9) (hr : meth.sig.returnType = some .boolean) {o : Int} {a1 : Int} {h : HP} {K53 : Prop} {K45 : Prop} (hK53 : K53 → V G p l e (rmD 9 0) s m args below meth c (MQ below (QI G P) args s 0 0 (va_Aof G)) 3 53 [(1, 0), (1, 0), (1, 0)] [] h 0) (hK45 : K45 → V G p l e (rmD 9 0) s m args below meth c (MQ below (QI G P) args s 0 0 (va_Aof G)) 3 45 [(1, 0), (1, 0), (1, 0)] [] h 0) : ∀ (f : Nat) (l2 : Int), wX8_mayHoldClass_27 o a1 h K53 K45 f l2 → V G p l e (rmD 9 0) s m args below meth c (MQ below (QI G P) args s 0 0 (va_Aof G)) 3 27 [(18, o), (0, a1), (0, l2)] [] h 0 := by
  intro f
  induction f with
  | zero =>
    intro l2 hw
    exact hw.elim
  | succ f ih =>
    intro l2 hw
    refine V.iload_n hc dX8_mayHoldClass_27 rfl rfl ?_
    refine V.aload_n (t := 8) hc dX8_mayHoldClass_28 rfl rfl ?_
    refine V.gI hc gI_X8_15 rfl dX8_mayHoldClass_29 ?_
    obtain ⟨g9, hw⟩ := hw
    obtain ⟨g10, hw⟩ := hw
    refine V.icmp_ge hc (tgt := 53) dX8_mayHoldClass_32 (by decide) g9 g10 (fun c11 => ?_) (fun c11 => ?_)
    · replace hw := hw.1 c11
      refine V.drop (lo' := [(1, 0), (1, 0), (1, 0)]) ⟨Or.inl rfl, Or.inl rfl, Or.inl rfl, trivial⟩ ?_
      exact hK53 hw
    · replace hw := hw.2 c11
      refine V.aload_n (t := 8) hc dX8_mayHoldClass_35 rfl rfl ?_
      refine V.gR hc gR_X8_28 (i' := o) rfl dX8_mayHoldClass_36 ?_
      refine V.iload_n hc dX8_mayHoldClass_39 rfl rfl ?_
      obtain ⟨g12, hw⟩ := hw
      refine V.ald hc ak_40 g12 dX8_mayHoldClass_40 ?_
      refine V.iload_n hc dX8_mayHoldClass_41 rfl rfl ?_
      obtain ⟨g13, hw⟩ := hw
      obtain ⟨g14, hw⟩ := hw
      refine V.icmp_ne hc (tgt := 47) dX8_mayHoldClass_42 (by decide) g13 g14 (fun c15 => ?_) (fun c15 => ?_)
      · replace hw := hw.1 c15
        refine V.iinc hc dX8_mayHoldClass_47 rfl rfl (lo' := [(18, o), (0, a1), (0, l2 + 1)]) rfl ?_
        refine V.goto hc (tgt := 27) dX8_mayHoldClass_50 (by decide) ?_
        exact ih _ hw
      · replace hw := hw.2 c15
        refine V.drop (lo' := [(1, 0), (1, 0), (1, 0)]) ⟨Or.inl rfl, Or.inl rfl, Or.inl rfl, trivial⟩ ?_
        exact hK45 hw
theorem qX8_mayHoldClass (G : GG) (l : Launch) (o : Int) (a1 : Int) (h : HP) (P : Int → HP → Prop) (hw : wX8_mayHoldClass o a1 h P) : CnI l G yX8_mayHoldClass cX8_mayHoldClass 3 (some .boolean) 9 [(18, o), (0, a1)] h P := by
  refine CnI.of (lo := [(18, o), (0, a1), (1, 0)]) (by decide) rfl rfl rfl ?_
  intro p e s m args below meth c hc hr
  have hc : VC G p (rmD 9 0) s m args meth c RX8 cX8_mayHoldClass 3 9 := hc
  refine V.aload_n (t := 8) hc dX8_mayHoldClass_0 rfl rfl ?_
  refine V.iload_n hc dX8_mayHoldClass_1 rfl rfl ?_
  refine V.callVI hc (qX8_hasClass G l _ _ _ _ hw) mo_X8_hasClass ml_X8_66 (by rfl) rfl rfl (as := [(0, a1)]) rfl rfl rfl rfl rfl ⟨Nat.zero_le _, Nat.zero_le _⟩ dX8_mayHoldClass_2 (fun x2 h1 hw => ?_)
  obtain ⟨g3, hw⟩ := hw
  refine V.if_eq hc (tgt := 23) dX8_mayHoldClass_5 (by decide) g3 (fun c4 => ?_) (fun c4 => ?_)
  · replace hw := hw.1 c4
    refine V.iconst hc dX8_mayHoldClass_23 ?_
    exact V.zret hc hr dX8_mayHoldClass_24 (by omega) hw
  · replace hw := hw.2 c4
    refine V.aload_n (t := 8) hc dX8_mayHoldClass_8 rfl rfl ?_
    refine V.gR hc gR_X8_43 (i' := o) rfl dX8_mayHoldClass_9 ?_
    refine V.iload_n hc dX8_mayHoldClass_12 rfl rfl ?_
    refine V.iconst hc dX8_mayHoldClass_13 ?_
    refine V.imul hc dX8_mayHoldClass_14 ?_
    refine V.iconst hc dX8_mayHoldClass_15 ?_
    refine V.iadd hc dX8_mayHoldClass_16 ?_
    refine V.callVI hc (qX1_has G l _ _ _ _ hw) mo_X1_has ml_X8_73 (by rfl) rfl rfl (as := [(0, (a1 * 3) + 0)]) rfl rfl rfl rfl rfl ⟨Nat.zero_le _, Nat.zero_le _⟩ dX8_mayHoldClass_17 (fun x6 h5 hw => ?_)
    obtain ⟨g7, hw⟩ := hw
    refine V.if_eq hc (tgt := 25) dX8_mayHoldClass_20 (by decide) g7 (fun c8 => ?_) (fun c8 => ?_)
    · replace hw := hw.1 c8
      refine V.iconst hc dX8_mayHoldClass_25 ?_
      refine V.istore_n hc dX8_mayHoldClass_26 rfl rfl (lo' := [(18, o), (0, a1), (0, 0)]) rfl ?_
      obtain ⟨f16, hw⟩ := hw
      refine tX8_mayHoldClass_27 hc hr ?_ ?_ f16 _ hw
      · intro hw
        refine V.iconst hc dX8_mayHoldClass_53 ?_
        exact V.zret hc hr dX8_mayHoldClass_54 (by omega) hw
      · intro hw
        refine V.iconst hc dX8_mayHoldClass_45 ?_
        exact V.zret hc hr dX8_mayHoldClass_46 (by omega) hw
    · replace hw := hw.2 c8
      refine V.iconst hc dX8_mayHoldClass_23 ?_
      exact V.zret hc hr dX8_mayHoldClass_24 (by omega) hw
def wX8_addClass (o : Int) (a1 : Int) (h : HP) (P : HP → Prop) : Prop := (0 ≤ h 8 o 0 ∧ h 8 o 0 < 12) ∧ ∀ h1 : HP, h1 = up h 37 o (h 8 o 0) a1 → (0 ≤ a1 ∧ a1 < 13) ∧ (0 ≤ (a1 * 12) + (h1 38 o a1) ∧ (a1 * 12) + (h1 38 o a1) < 156) ∧ ∀ h4 : HP, h4 = up h1 39 o ((a1 * 12) + (h1 38 o a1)) (h1 8 o 0) → (0 ≤ a1 ∧ a1 < 13) ∧ (0 ≤ a1 ∧ a1 < 13) ∧ ∀ h7 : HP, h7 = up h4 38 o a1 ((h4 38 o a1) + 1) → wX1_put o (((h7 8 o 0) * 3) + 1) 10 0 10 h7 (fun h9 => ∀ h10 : HP, h10 = up h9 8 o 0 ((h9 8 o 0) + 1) → P h10)
theorem qX8_addClass (G : GG) (l : Launch) (o : Int) (a1 : Int) (h : HP) (P : HP → Prop) (hw : wX8_addClass o a1 h P) : CnV l G yX8_addClass cX8_addClass 2 9 [(18, o), (0, a1)] h P := by
  refine CnV.of (lo := [(18, o), (0, a1)]) (by decide) rfl rfl rfl ?_
  intro p e s m args below meth c hc hr
  have hc : VC G p (rmD 9 0) s m args meth c RX8 cX8_addClass 2 9 := hc
  refine V.aload_n (t := 8) hc dX8_addClass_0 rfl rfl ?_
  refine V.gR hc gR_X8_18 (i' := o) rfl dX8_addClass_1 ?_
  refine V.aload_n (t := 8) hc dX8_addClass_4 rfl rfl ?_
  refine V.gI hc gI_X8_9 rfl dX8_addClass_5 ?_
  refine V.iload_n hc dX8_addClass_8 rfl rfl ?_
  obtain ⟨g2, hw⟩ := hw
  refine V.ast hc ak_37 g2 dX8_addClass_9 (fun h1 e => ?_)
  replace hw := hw h1 e
  clear e
  refine V.aload_n (t := 8) hc dX8_addClass_10 rfl rfl ?_
  refine V.gR hc gR_X8_25 (i' := o) rfl dX8_addClass_11 ?_
  refine V.iload_n hc dX8_addClass_14 rfl rfl ?_
  refine V.bipush hc dX8_addClass_15 (by decide) ?_
  refine V.imul hc dX8_addClass_17 ?_
  refine V.aload_n (t := 8) hc dX8_addClass_18 rfl rfl ?_
  refine V.gR hc gR_X8_22 (i' := o) rfl dX8_addClass_19 ?_
  refine V.iload_n hc dX8_addClass_22 rfl rfl ?_
  obtain ⟨g3, hw⟩ := hw
  refine V.ald hc ak_38 g3 dX8_addClass_23 ?_
  refine V.iadd hc dX8_addClass_24 ?_
  refine V.aload_n (t := 8) hc dX8_addClass_25 rfl rfl ?_
  refine V.gI hc gI_X8_9 rfl dX8_addClass_26 ?_
  obtain ⟨g5, hw⟩ := hw
  refine V.ast hc ak_39 g5 dX8_addClass_29 (fun h4 e => ?_)
  replace hw := hw h4 e
  clear e
  refine V.aload_n (t := 8) hc dX8_addClass_30 rfl rfl ?_
  refine V.gR hc gR_X8_22 (i' := o) rfl dX8_addClass_31 ?_
  refine V.iload_n hc dX8_addClass_34 rfl rfl ?_
  refine V.dup2 hc dX8_addClass_35 (by simp) (by simp) ?_
  obtain ⟨g6, hw⟩ := hw
  refine V.ald hc ak_38 g6 dX8_addClass_36 ?_
  refine V.iconst hc dX8_addClass_37 ?_
  refine V.iadd hc dX8_addClass_38 ?_
  obtain ⟨g8, hw⟩ := hw
  refine V.ast hc ak_38 g8 dX8_addClass_39 (fun h7 e => ?_)
  replace hw := hw h7 e
  clear e
  refine V.aload_n (t := 8) hc dX8_addClass_40 rfl rfl ?_
  refine V.gR hc gR_X8_43 (i' := o) rfl dX8_addClass_41 ?_
  refine V.aload_n (t := 8) hc dX8_addClass_44 rfl rfl ?_
  refine V.gI hc gI_X8_9 rfl dX8_addClass_45 ?_
  refine V.iconst hc dX8_addClass_48 ?_
  refine V.imul hc dX8_addClass_49 ?_
  refine V.iconst hc dX8_addClass_50 ?_
  refine V.iadd hc dX8_addClass_51 ?_
  refine V.bipush hc dX8_addClass_52 (by decide) ?_
  refine V.iconst hc dX8_addClass_54 ?_
  refine V.bipush hc dX8_addClass_55 (by decide) ?_
  refine V.callVV hc (qX1_put G l _ _ _ _ _ _ _ hw) mo_X1_put ml_X8_76 (by rfl) rfl rfl (as := [(0, ((h7 8 o 0) * 3) + 1), (0, 10), (0, 0), (0, 10)]) rfl rfl rfl rfl rfl ⟨Nat.zero_le _, Nat.zero_le _⟩ dX8_addClass_57 (fun h9 hw => ?_)
  refine V.aload_n (t := 8) hc dX8_addClass_60 rfl rfl ?_
  refine V.dup hc dX8_addClass_61 (by simp) ?_
  refine V.gI hc gI_X8_9 rfl dX8_addClass_62 ?_
  refine V.iconst hc dX8_addClass_65 ?_
  refine V.iadd hc dX8_addClass_66 ?_
  refine V.pI hc pI_X8_9 rfl dX8_addClass_67 (fun h10 e => ?_)
  replace hw := hw h10 e
  clear e
  exact V.vret hc hr dX8_addClass_70 hw
def wX8_addFlow (o : Int) (a1 : Int) (a2 : Int) (a3 : Int) (a4 : Int) (h : HP) (P : HP → Prop) : Prop := (0 ≤ h 8 o 1 ∧ h 8 o 1 < 8) ∧ ∀ h1 : HP, h1 = up h 40 o (h 8 o 1) a1 → (0 ≤ h1 8 o 1 ∧ h1 8 o 1 < 8) ∧ ∀ h3 : HP, h3 = up h1 41 o (h1 8 o 1) a2 → (0 ≤ h3 8 o 1 ∧ h3 8 o 1 < 8) ∧ ∀ h5 : HP, h5 = up h3 42 o (h3 8 o 1) a3 → (0 ≤ h5 8 o 1 ∧ h5 8 o 1 < 8) ∧ ∀ h7 : HP, h7 = up h5 43 o (h5 8 o 1) a4 → ∀ h9 : HP, h9 = up h7 8 o 1 ((h7 8 o 1) + 1) → P h9
theorem qX8_addFlow (G : GG) (l : Launch) (o : Int) (a1 : Int) (a2 : Int) (a3 : Int) (a4 : Int) (h : HP) (P : HP → Prop) (hw : wX8_addFlow o a1 a2 a3 a4 h P) : CnV l G yX8_addFlow cX8_addFlow 5 8 [(18, o), (0, a1), (0, a2), (0, a3), (0, a4)] h P := by
  refine CnV.of (lo := [(18, o), (0, a1), (0, a2), (0, a3), (0, a4)]) (by decide) rfl rfl rfl ?_
  intro p e s m args below meth c hc hr
  have hc : VC G p (rmD 8 0) s m args meth c RX8 cX8_addFlow 5 8 := hc
  refine V.aload_n (t := 8) hc dX8_addFlow_0 rfl rfl ?_
  refine V.gR hc gR_X8_28 (i' := o) rfl dX8_addFlow_1 ?_
  refine V.aload_n (t := 8) hc dX8_addFlow_4 rfl rfl ?_
  refine V.gI hc gI_X8_15 rfl dX8_addFlow_5 ?_
  refine V.iload_n hc dX8_addFlow_8 rfl rfl ?_
  obtain ⟨g2, hw⟩ := hw
  refine V.ast hc ak_40 g2 dX8_addFlow_9 (fun h1 e => ?_)
  replace hw := hw h1 e
  clear e
  refine V.aload_n (t := 8) hc dX8_addFlow_10 rfl rfl ?_
  refine V.gR hc gR_X8_31 (i' := o) rfl dX8_addFlow_11 ?_
  refine V.aload_n (t := 8) hc dX8_addFlow_14 rfl rfl ?_
  refine V.gI hc gI_X8_15 rfl dX8_addFlow_15 ?_
  refine V.iload_n hc dX8_addFlow_18 rfl rfl ?_
  obtain ⟨g4, hw⟩ := hw
  refine V.ast hc ak_41 g4 dX8_addFlow_19 (fun h3 e => ?_)
  replace hw := hw h3 e
  clear e
  refine V.aload_n (t := 8) hc dX8_addFlow_20 rfl rfl ?_
  refine V.gR hc gR_X8_34 (i' := o) rfl dX8_addFlow_21 ?_
  refine V.aload_n (t := 8) hc dX8_addFlow_24 rfl rfl ?_
  refine V.gI hc gI_X8_15 rfl dX8_addFlow_25 ?_
  refine V.iload_n hc dX8_addFlow_28 rfl rfl ?_
  obtain ⟨g6, hw⟩ := hw
  refine V.ast hc ak_42 g6 dX8_addFlow_29 (fun h5 e => ?_)
  replace hw := hw h5 e
  clear e
  refine V.aload_n (t := 8) hc dX8_addFlow_30 rfl rfl ?_
  refine V.gR hc gR_X8_37 (i' := o) rfl dX8_addFlow_31 ?_
  refine V.aload_n (t := 8) hc dX8_addFlow_34 rfl rfl ?_
  refine V.gI hc gI_X8_15 rfl dX8_addFlow_35 ?_
  refine V.iload hc dX8_addFlow_38 rfl ?_
  obtain ⟨g8, hw⟩ := hw
  refine V.ast hc ak_43 g8 dX8_addFlow_40 (fun h7 e => ?_)
  replace hw := hw h7 e
  clear e
  refine V.aload_n (t := 8) hc dX8_addFlow_41 rfl rfl ?_
  refine V.dup hc dX8_addFlow_42 (by simp) ?_
  refine V.gI hc gI_X8_15 rfl dX8_addFlow_43 ?_
  refine V.iconst hc dX8_addFlow_46 ?_
  refine V.iadd hc dX8_addFlow_47 ?_
  refine V.pI hc pI_X8_15 rfl dX8_addFlow_48 (fun h9 e => ?_)
  replace hw := hw h9 e
  clear e
  exact V.vret hc hr dX8_addFlow_51 hw
