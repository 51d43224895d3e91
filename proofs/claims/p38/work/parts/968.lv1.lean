theorem qL_most (G : GG) (l : Launch) (a0 : Int) (a1 : Int) (h : HP) (P : Int → HP → Prop) (hw : wL_most G a0 a1 h P) : CnI l G yL_most cL_most 2 (some .int) 2 [(0, a0), (0, a1)] h P := by
  refine CnI.of (lo := [(0, a0), (0, a1)]) (by decide) rfl rfl rfl ?_
  intro p e s m args below meth c hc hr
  have hc : VC G p (rmD 2 0) s m args meth c RL cL_most 2 2 := hc
  refine V.iload_n hc dL_most_0 rfl rfl ?_
  refine V.ldc hc (x := 2147483647) kl_L_7 dL_most_1 ?_
  refine V.iand hc dL_most_3 ?_
  refine V.iload_n hc dL_most_4 rfl rfl ?_
  obtain ⟨g1, hw⟩ := hw
  obtain ⟨g2, hw⟩ := hw
  refine V.irem hc g1 g2 dL_most_5 ?_
  exact V.iret hc hr dL_most_6 hw
theorem qL_cell (G : GG) (l : Launch) (a1 : Int) (h : HP) (P : Int → HP → Prop) (hw : wL_cell G a1 h P) : CnI l G yL_cell cL_cell 2 (some .int) 2 [(3, 0), (0, a1)] h P := by
  refine CnI.of (lo := [(3, 0), (0, a1)]) (by decide) rfl rfl rfl ?_
  intro p e s m args below meth c hc hr
  have hc : VC G p (rmD 2 0) s m args meth c RL cL_cell 2 2 := hc
  refine V.iload_n hc dL_cell_0 rfl rfl ?_
  refine V.aloadC_n hc ⟨_, rfl⟩ dL_cell_1 rfl rfl ?_
  refine V.slen hc dL_cell_2 ?_
  obtain ⟨q5, hw⟩ := hw
  have kJ6 : ∀ t4 : Int, ((((G.2.2.1 11 : Nat) : Int) ≤ a1 → t4 = 37 * a1) ∧ (¬ ((G.2.2.1 11 : Nat) : Int) ≤ a1 → t4 = (G.2.2.2 (a1).toNat).toInt)) → V G p l e (rmD 2 0) s m args below meth c (MQ below (QI G P) args s 0 0 (va_Aof G)) 2 16 [(1, 0), (1, 0)] [(0, t4)] h 0 := by
    intro t4 he
    replace hw := hw t4 he
    clear he
    exact V.iret hc hr dL_cell_16 hw
  obtain ⟨g1, g2, q7⟩ := q5
  refine V.icmp_ge hc (tgt := 12) dL_cell_3 (by decide) g1 g2 (fun c8 => ?_) (fun c8 => ?_)
  · refine V.bipush hc dL_cell_12 (by decide) ?_
    refine V.iload_n hc dL_cell_14 rfl rfl ?_
    refine V.imul hc dL_cell_15 ?_
    refine V.drop (lo' := [(1, 0), (1, 0)]) ⟨Or.inl rfl, Or.inl rfl, trivial⟩ ?_
    exact kJ6 _ ⟨fun _ => rfl, (fun q => absurd c8 q)⟩
  · have q9 := q7 c8
    have g3 := q9
    refine V.aloadC_n hc ⟨_, rfl⟩ dL_cell_6 rfl rfl ?_
    refine V.iload_n hc dL_cell_7 rfl rfl ?_
    refine V.sld hc g3 dL_cell_8 ?_
    refine V.goto hc (tgt := 16) dL_cell_9 (by decide) ?_
    refine V.drop (lo' := [(1, 0), (1, 0)]) ⟨Or.inl rfl, Or.inl rfl, trivial⟩ ?_
    exact kJ6 _ ⟨(fun q => absurd q c8), fun _ => rfl⟩
theorem tL_isLeaf_8 {G : GG} {p : Program} {l : Launch} {e : Jvm.Env} {s : State} {m : MethodId} {args : Array Value} {below : List Frame} {meth : Method} {c : Code} {P : Int → HP → Prop} (hc : VC G p (rmD 2 0) s m args meth c RL cL_isLeaf 6 2) (hr : meth.sig.returnType = some .boolean) (hG : exL G 4) {a1 : Int} {l3 : Int} {h : HP} {K34 : Prop} {K26 : Prop} (hK34 : K34 → V G p l e (rmD 2 0) s m args below meth c (MQ below (QI G P) args s 0 0 (va_Aof G)) 6 34 [(1, 0), (1, 0), (1, 0), (1, 0), (1, 0), (1, 0)] [] h 0) (hK26 : K26 → V G p l e (rmD 2 0) s m args below meth c (MQ below (QI G P) args s 0 0 (va_Aof G)) 6 26 [(1, 0), (1, 0), (1, 0), (1, 0), (1, 0), (1, 0)] [] h 0) : ∀ (f : Nat) (l4 : Int), wL_isLeaf_8 G a1 l3 h K34 K26 f l4 → V G p l e (rmD 2 0) s m args below meth c (MQ below (QI G P) args s 0 0 (va_Aof G)) 6 8 [(1, 0), (0, a1), (3, 4), (0, l3), (0, l4), (1, 0)] [] h 0 := by
  intro f
  induction f with
  | zero =>
    intro l4 hw
    exact hw.elim
  | succ f ih =>
    intro l4 hw
    refine V.iload hc dL_isLeaf_8 rfl ?_
    refine V.iload_n hc dL_isLeaf_10 rfl rfl ?_
    obtain ⟨g1, hw⟩ := hw
    obtain ⟨g2, hw⟩ := hw
    refine V.icmp_ge hc (tgt := 34) dL_isLeaf_11 (by decide) g1 g2 (fun c3 => ?_) (fun c3 => ?_)
    · replace hw := hw.1 c3
      refine V.drop (lo' := [(1, 0), (1, 0), (1, 0), (1, 0), (1, 0), (1, 0)]) ⟨Or.inr rfl, Or.inl rfl, Or.inl rfl, Or.inl rfl, Or.inl rfl, Or.inr rfl, trivial⟩ ?_
      exact hK34 hw
    · replace hw := hw.2 c3
      refine V.aloadC_n hc hG.rf dL_isLeaf_14 rfl rfl ?_
      refine V.iload hc dL_isLeaf_15 rfl ?_
      obtain ⟨g4, hw⟩ := hw
      refine V.lald (ln := (npI G)) hc hG (by decide) rfl g4 dL_isLeaf_17 ?_
      refine V.istore hc dL_isLeaf_18 rfl (lo' := [(1, 0), (0, a1), (3, 4), (0, l3), (0, l4), (0, h (kd 4) 0 l4)]) rfl ?_
      refine V.iload hc dL_isLeaf_20 rfl ?_
      refine V.iload_n hc dL_isLeaf_22 rfl rfl ?_
      obtain ⟨g5, hw⟩ := hw
      obtain ⟨g6, hw⟩ := hw
      refine V.icmp_ne hc (tgt := 28) dL_isLeaf_23 (by decide) g5 g6 (fun c7 => ?_) (fun c7 => ?_)
      · replace hw := hw.1 c7
        refine V.iinc hc dL_isLeaf_28 rfl rfl (lo' := [(1, 0), (0, a1), (3, 4), (0, l3), (0, l4 + 1), (0, h (kd 4) 0 l4)]) rfl ?_
        refine V.goto hc (tgt := 8) dL_isLeaf_31 (by decide) ?_
        refine V.drop (lo' := [(1, 0), (0, a1), (3, 4), (0, l3), (0, l4 + 1), (1, 0)]) ⟨Or.inr rfl, Or.inr rfl, Or.inr rfl, Or.inr rfl, Or.inr rfl, Or.inl rfl, trivial⟩ ?_
        exact ih _ hw
      · replace hw := hw.2 c7
        refine V.drop (lo' := [(1, 0), (1, 0), (1, 0), (1, 0), (1, 0), (1, 0)]) ⟨Or.inr rfl, Or.inl rfl, Or.inl rfl, Or.inl rfl, Or.inl rfl, Or.inl rfl, trivial⟩ ?_
        exact hK26 hw
theorem qL_isLeaf (G : GG) (l : Launch) (hG : exL G 4) (a1 : Int) (h : HP) (P : Int → HP → Prop) (hw : wL_isLeaf G a1 h P) : CnI l G yL_isLeaf cL_isLeaf 6 (some .boolean) 2 [(3, 4), (0, a1)] h P := by
  refine CnI.of (lo := [(3, 4), (0, a1), (1, 0), (1, 0), (1, 0), (1, 0)]) (by decide) rfl rfl rfl ?_
  intro p e s m args below meth c hc hr
  have hc : VC G p (rmD 2 0) s m args meth c RL cL_isLeaf 6 2 := hc
  refine V.aloadC_n hc hG.rf dL_isLeaf_0 rfl rfl ?_
  refine V.astoreC_n hc hG.rf dL_isLeaf_1 rfl rfl (lo' := [(3, 4), (0, a1), (3, 4), (1, 0), (1, 0), (1, 0)]) rfl ?_
  refine V.aloadC_n hc hG.rf dL_isLeaf_2 rfl rfl ?_
  refine V.laln (ln := (npI G)) hc hG (by decide) rfl dL_isLeaf_3 ?_
  refine V.istore_n hc dL_isLeaf_4 rfl rfl (lo' := [(3, 4), (0, a1), (3, 4), (0, (npI G)), (1, 0), (1, 0)]) rfl ?_
  refine V.iconst hc dL_isLeaf_5 ?_
  refine V.istore hc dL_isLeaf_6 rfl (lo' := [(3, 4), (0, a1), (3, 4), (0, (npI G)), (0, 0), (1, 0)]) rfl ?_
  obtain ⟨f8, hw⟩ := hw
  refine V.drop (lo' := [(1, 0), (0, a1), (3, 4), (0, (npI G)), (0, 0), (1, 0)]) ⟨Or.inl rfl, Or.inr rfl, Or.inr rfl, Or.inr rfl, Or.inr rfl, Or.inr rfl, trivial⟩ ?_
  refine tL_isLeaf_8 hc hr hG ?_ ?_ f8 _ hw
  · intro hw
    refine V.iconst hc dL_isLeaf_34 ?_
    exact V.zret hc hr dL_isLeaf_35 (by omega) hw
  · intro hw
    refine V.iconst hc dL_isLeaf_26 ?_
    exact V.zret hc hr dL_isLeaf_27 (by omega) hw
theorem tL_add_65 {G : GG} {p : Program} {l : Launch} {e : Jvm.Env} {s : State} {m : MethodId} {args : Array Value} {below : List Frame} {meth : Method} {c : Code} {o : Int} {P : HP → Prop} (hc : VC G p (rmD 3 0) s m args meth c RL cL_add 4 3) (hr : meth.sig.returnType = none) (hG : LG G) (hO : OB G o) {a2 : Int} {K80 : HP → Prop} (hK80 : ∀  (h : HP), K80  h → V G p l e (rmD 3 0) s m args below meth c (MQ below (QV G P) args s 0 0 (va_Aof G)) 4 80 [(1, 0), (1, 0), (1, 0), (1, 0)] [] h 0) : ∀ (f : Nat) (l3 : Int) (h : HP), wL_add_65 G o a2 K80 f l3 h → V G p l e (rmD 3 0) s m args below meth c (MQ below (QV G P) args s 0 0 (va_Aof G)) 4 65 [(1, 0), (3, 3), (1, 0), (0, l3)] [] h 0 := by
  intro f
  induction f with
  | zero =>
    intro l3 h hw
    exact hw.elim
  | succ f ih =>
    intro l3 h hw
    refine V.iload_n hc dL_add_65 rfl rfl ?_
    refine V.iconst hc dL_add_66 ?_
    obtain ⟨g14, hw⟩ := hw
    refine V.icmp_ge hc (tgt := 80) dL_add_67 (by decide) g14 (by omega) (fun c15 => ?_) (fun c15 => ?_)
    · replace hw := hw.1 c15
      refine V.drop (lo' := [(1, 0), (1, 0), (1, 0), (1, 0)]) ⟨Or.inr rfl, Or.inl rfl, Or.inr rfl, Or.inl rfl, trivial⟩ ?_
      exact hK80 _ hw
    · replace hw := hw.2 c15
      refine V.aloadC_n hc hG.e3.rf dL_add_70 rfl rfl ?_
      refine V.iload_n hc dL_add_71 rfl rfl ?_
      refine V.iconst hc dL_add_72 ?_
      obtain ⟨g17, hw⟩ := hw
      refine V.last (ln := 6) hc hG.e3 (by decide) rfl g17 dL_add_73 (fun h16 e => ?_)
      replace hw := hw h16 e
      clear e
      refine V.iinc hc dL_add_74 rfl rfl (lo' := [(1, 0), (3, 3), (1, 0), (0, l3 + 1)]) rfl ?_
      refine V.goto hc (tgt := 65) dL_add_77 (by decide) ?_
      exact ih _ _ hw
theorem qL_add (G : GG) (l : Launch) (hG : LG G) (o : Int) (a2 : Int) (h : HP) (P : HP → Prop) (hO : OB G o) (hw : wL_add G o a2 h P) : CnV l G yL_add cL_add 4 3 [(3, o), (3, 3), (0, a2)] h P := by
  refine CnV.of (lo := [(3, o), (3, 3), (0, a2), (1, 0)]) (by decide) rfl rfl rfl ?_
  intro p e s m args below meth c hc hr
  have hc : VC G p (rmD 3 0) s m args meth c RL cL_add 4 3 := hc
  refine V.aloadC_n hc hG.e3.rf dL_add_0 rfl rfl ?_
  refine V.aloadC_n hc hG.e3.rf dL_add_1 rfl rfl ?_
  refine V.iconst hc dL_add_2 ?_
  refine V.lald (ln := 6) hc hG.e3 (by decide) rfl (by omega) dL_add_3 ?_
  refine V.bipush hc dL_add_4 (by decide) ?_
  obtain ⟨g1, hw⟩ := hw
  refine V.irem hc g1 (by omega) dL_add_6 ?_
  refine V.iconst hc dL_add_7 ?_
  obtain ⟨g2, hw⟩ := hw
  refine V.idiv hc g2 (by omega) dL_add_8 ?_
  refine V.dup2 hc dL_add_9 (by simp) (by simp) ?_
  obtain ⟨g3, hw⟩ := hw
  refine V.lald (ln := 6) hc hG.e3 (by decide) rfl g3 dL_add_10 ?_
  refine V.iload_n hc dL_add_11 rfl rfl ?_
  refine V.bipush hc dL_add_12 (by decide) ?_
  refine V.bipush hc dL_add_14 (by decide) ?_
  refine V.aloadC_n hc hG.e3.rf dL_add_16 rfl rfl ?_
  refine V.iconst hc dL_add_17 ?_
  refine V.lald (ln := 6) hc hG.e3 (by decide) rfl (by omega) dL_add_18 ?_
  refine V.iconst hc dL_add_19 ?_
  obtain ⟨g4, hw⟩ := hw
  refine V.irem hc g4 (by omega) dL_add_20 ?_
  refine V.imul hc dL_add_21 ?_
  refine V.isub hc dL_add_22 ?_
  refine V.ishl hc dL_add_23 ?_
  refine V.ior hc dL_add_24 ?_
  obtain ⟨g6, hw⟩ := hw
  refine V.last (ln := 6) hc hG.e3 (by decide) rfl g6 dL_add_25 (fun h5 e => ?_)
  replace hw := hw h5 e
  clear e
  refine V.aloadC_n hc hG.e3.rf dL_add_26 rfl rfl ?_
  refine V.iconst hc dL_add_27 ?_
  refine V.dup2 hc dL_add_28 (by simp) (by simp) ?_
  refine V.lald (ln := 6) hc hG.e3 (by decide) rfl (by omega) dL_add_29 ?_
  refine V.iconst hc dL_add_30 ?_
  refine V.iadd hc dL_add_31 ?_
  refine V.last (ln := 6) hc hG.e3 (by decide) rfl (by omega) dL_add_32 (fun h7 e => ?_)
  replace hw := hw h7 e
  clear e
  refine V.aloadC_n hc hG.e3.rf dL_add_33 rfl rfl ?_
  refine V.iconst hc dL_add_34 ?_
  refine V.lald (ln := 6) hc hG.e3 (by decide) rfl (by omega) dL_add_35 ?_
  refine V.bipush hc dL_add_36 (by decide) ?_
  obtain ⟨g8, hw⟩ := hw
  refine V.irem hc g8 (by omega) dL_add_38 ?_
  obtain ⟨g9, hw⟩ := hw
  refine V.if_eq hc (tgt := 43) dL_add_39 (by decide) g9 (fun c10 => ?_) (fun c10 => ?_)
  · replace hw := hw.1 c10
    refine V.aloadC_n hc hO.rf dL_add_43 rfl rfl ?_
    refine V.aloadC_n hc hG.e3.rf dL_add_44 rfl rfl ?_
    refine V.iconst hc dL_add_45 ?_
    refine V.lald (ln := 6) hc hG.e3 (by decide) rfl (by omega) dL_add_46 ?_
    refine V.aloadC_n hc hG.e3.rf dL_add_47 rfl rfl ?_
    refine V.iconst hc dL_add_48 ?_
    refine V.lald (ln := 6) hc hG.e3 (by decide) rfl (by omega) dL_add_49 ?_
    refine V.aloadC_n hc hG.e3.rf dL_add_50 rfl rfl ?_
    refine V.iconst hc dL_add_51 ?_
    refine V.lald (ln := 6) hc hG.e3 (by decide) rfl (by omega) dL_add_52 ?_
    refine V.aloadC_n hc hG.e3.rf dL_add_53 rfl rfl ?_
    refine V.iconst hc dL_add_54 ?_
    refine V.lald (ln := 6) hc hG.e3 (by decide) rfl (by omega) dL_add_55 ?_
    refine V.aloadC_n hc hG.e3.rf dL_add_56 rfl rfl ?_
    refine V.iconst hc dL_add_57 ?_
    refine V.lald (ln := 6) hc hG.e3 (by decide) rfl (by omega) dL_add_58 ?_
    refine V.callOI hc hO (qX11_feed _ l _ _ _ _ _ _ _ _ hw) mo_X11_feed ml_L_8 rfl (as := [(0, h7 (kd 3) 0 0), (0, h7 (kd 3) 0 1), (0, h7 (kd 3) 0 2), (0, h7 (kd 3) 0 3), (0, h7 (kd 3) 0 4)]) rfl rfl rfl rfl rfl rfl ⟨Nat.zero_le _, Nat.zero_le _⟩ dL_add_59 (fun x12 g13 h11 e hw => ?_)
    replace hw := hw h11 e
    clear e
    refine V.pop hc dL_add_62 (by show (0 : Nat) ≠ 2; omega) ?_
    refine V.iconst hc dL_add_63 ?_
    refine V.istore_n hc dL_add_64 rfl rfl (lo' := [(3, o), (3, 3), (0, a2), (0, 0)]) rfl ?_
    obtain ⟨f18, hw⟩ := hw
    refine V.drop (lo' := [(1, 0), (3, 3), (1, 0), (0, 0)]) ⟨Or.inl rfl, Or.inr rfl, Or.inl rfl, Or.inr rfl, trivial⟩ ?_
    refine tL_add_65 hc hr hG hO ?_ f18 _ _ hw
    · intro h19 hw
      exact V.vret hc hr dL_add_80 hw
  · replace hw := hw.2 c10
    exact V.vret hc hr dL_add_42 hw
