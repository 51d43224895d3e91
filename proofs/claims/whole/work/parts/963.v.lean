theorem tX6_spreadIn_7 {G : GG} {p : Program} {l : Launch} {e : Jvm.Env} {s : State} {m : MethodId} {args : Array Value} {below : List Frame} {meth : Method} {c : Code} {P : Int → HP → Prop} (hc : VC G p (rmD 8 0) s m args meth c RX6 cX6_spreadIn 6 8) (hr : meth.sig.returnType = some .int) {o : Int} {a1 : Int} {h : HP} {K105 : Int → Int → Prop} (hK105 : ∀ (x2 : Int) (x3 : Int), K105 x2 x3 → V G p l e (rmD 8 0) s m args below meth c (MQ below (QI G P) args s 0 0 (va_Aof G)) 6 105 [(1, 0), (1, 0), (0, x2), (0, x3), (1, 0), (1, 0)] [] h 0) : ∀ (f : Nat) (l2 : Int) (l3 : Int) (l4 : Int), wX6_spreadIn_7 o a1 h K105 f l2 l3 l4 → V G p l e (rmD 8 0) s m args below meth c (MQ below (QI G P) args s 0 0 (va_Aof G)) 6 7 [(16, o), (0, a1), (0, l2), (0, l3), (0, l4), (1, 0)] [] h 0 := by
  intro f
  induction f with
  | zero =>
    intro l2 l3 l4 hw
    exact hw.elim
  | succ f ih =>
    intro l2 l3 l4 hw
    refine V.iload hc dX6_spreadIn_7 rfl ?_
    refine V.aload_n (t := 6) hc dX6_spreadIn_9 rfl rfl ?_
    refine V.gR hc gR_X6_68 (i' := 1) rfl dX6_spreadIn_10 ?_
    refine V.gR hc gR_X6_117 (i' := 1) rfl dX6_spreadIn_13 ?_
    refine V.iload_n hc dX6_spreadIn_16 rfl rfl ?_
    obtain ⟨g1, hw⟩ := hw
    refine V.ald hc ak_38 g1 dX6_spreadIn_17 ?_
    obtain ⟨g2, hw⟩ := hw
    obtain ⟨g3, hw⟩ := hw
    refine V.icmp_ge hc (tgt := 105) dX6_spreadIn_18 (by decide) g2 g3 (fun c4 => ?_) (fun c4 => ?_)
    · replace hw := hw.1 c4
      refine V.drop (lo' := [(1, 0), (1, 0), (0, l2), (0, l3), (1, 0), (1, 0)]) ⟨Or.inl rfl, Or.inl rfl, Or.inr rfl, Or.inr rfl, Or.inl rfl, Or.inr rfl, trivial⟩ ?_
      exact hK105 _ _ hw
    · replace hw := hw.2 c4
      refine V.aload_n (t := 6) hc dX6_spreadIn_21 rfl rfl ?_
      refine V.gR hc gR_X6_68 (i' := 1) rfl dX6_spreadIn_22 ?_
      refine V.gR hc gR_X6_120 (i' := 1) rfl dX6_spreadIn_25 ?_
      refine V.iload_n hc dX6_spreadIn_28 rfl rfl ?_
      refine V.bipush hc dX6_spreadIn_29 (by decide) ?_
      refine V.imul hc dX6_spreadIn_31 ?_
      refine V.iload hc dX6_spreadIn_32 rfl ?_
      refine V.iadd hc dX6_spreadIn_34 ?_
      obtain ⟨g5, hw⟩ := hw
      refine V.ald hc ak_39 g5 dX6_spreadIn_35 ?_
      refine V.istore hc dX6_spreadIn_36 rfl (lo' := [(16, o), (0, a1), (0, l2), (0, l3), (0, l4), (0, h 39 1 ((a1 * 12) + l4))]) rfl ?_
      refine V.aload_n (t := 6) hc dX6_spreadIn_38 rfl rfl ?_
      refine V.gR hc gR_X6_46 (i' := o) rfl dX6_spreadIn_39 ?_
      refine V.iload hc dX6_spreadIn_42 rfl ?_
      obtain ⟨g6, hw⟩ := hw
      refine V.ald hc ak_29 g6 dX6_spreadIn_44 ?_
      obtain ⟨q28, hw⟩ := hw
      have kJ29 : ∀ t26 t27 : Int, ((h 29 o (h 39 1 ((a1 * 12) + l4)) ≤ 0 → (t26 = l2 ∧ t27 = l3)) ∧ (¬ h 29 o (h 39 1 ((a1 * 12) + l4)) ≤ 0 → ((l3 = (-1) → ((h 26 o (h 39 1 ((a1 * 12) + l4)) ≤ l3 → (t26 = h 26 o (h 39 1 ((a1 * 12) + l4)) ∧ t27 = l3)) ∧ (¬ h 26 o (h 39 1 ((a1 * 12) + l4)) ≤ l3 → (t26 = h 26 o (h 39 1 ((a1 * 12) + l4)) ∧ t27 = h 26 o (h 39 1 ((a1 * 12) + l4)))))) ∧ (¬ l3 = (-1) → ((l2 ≤ h 26 o (h 39 1 ((a1 * 12) + l4)) → ((h 26 o (h 39 1 ((a1 * 12) + l4)) ≤ l3 → (t26 = l2 ∧ t27 = l3)) ∧ (¬ h 26 o (h 39 1 ((a1 * 12) + l4)) ≤ l3 → (t26 = l2 ∧ t27 = h 26 o (h 39 1 ((a1 * 12) + l4)))))) ∧ (¬ l2 ≤ h 26 o (h 39 1 ((a1 * 12) + l4)) → ((h 26 o (h 39 1 ((a1 * 12) + l4)) ≤ l3 → (t26 = h 26 o (h 39 1 ((a1 * 12) + l4)) ∧ t27 = l3)) ∧ (¬ h 26 o (h 39 1 ((a1 * 12) + l4)) ≤ l3 → (t26 = h 26 o (h 39 1 ((a1 * 12) + l4)) ∧ t27 = h 26 o (h 39 1 ((a1 * 12) + l4))))))))))) → V G p l e (rmD 8 0) s m args below meth c (MQ below (QI G P) args s 0 0 (va_Aof G)) 6 99 [(16, o), (0, a1), (0, t26), (0, t27), (0, l4), (1, 0)] [] h 0 := by
        intro t26 t27 he
        replace hw := hw t26 t27 he
        clear he
        refine V.iinc hc dX6_spreadIn_99 rfl rfl (lo' := [(16, o), (0, a1), (0, t26), (0, t27), (0, l4 + 1), (1, 0)]) rfl ?_
        refine V.goto hc (tgt := 7) dX6_spreadIn_102 (by decide) ?_
        exact ih _ _ _ hw
      obtain ⟨g7, q30⟩ := q28
      refine V.if_le hc (tgt := 99) dX6_spreadIn_45 (by decide) g7 (fun c31 => ?_) (fun c31 => ?_)
      · refine V.drop (lo' := [(16, o), (0, a1), (0, l2), (0, l3), (0, l4), (1, 0)]) ⟨Or.inr rfl, Or.inr rfl, Or.inr rfl, Or.inr rfl, Or.inr rfl, Or.inl rfl, trivial⟩ ?_
        exact kJ29 _ _ ⟨fun _ => ⟨rfl, rfl⟩, (fun q => absurd c31 q)⟩
      · have q32 := q30 c31
        obtain ⟨g8, q33, q34⟩ := q32
        refine V.iload_n hc dX6_spreadIn_48 rfl rfl ?_
        refine V.iconst hc dX6_spreadIn_49 ?_
        refine V.icmp_eq hc (tgt := 64) dX6_spreadIn_50 (by decide) g8 (by omega) (fun c35 => ?_) (fun c35 => ?_)
        · have q36 := q33 c35
          obtain ⟨g9, g10, g11, g12, q37⟩ := q36
          refine V.aload_n (t := 6) hc dX6_spreadIn_64 rfl rfl ?_
          refine V.gR hc gR_X6_37 (i' := o) rfl dX6_spreadIn_65 ?_
          refine V.iload hc dX6_spreadIn_68 rfl ?_
          refine V.ald hc ak_26 g9 dX6_spreadIn_70 ?_
          refine V.goto hc (tgt := 75) dX6_spreadIn_71 (by decide) ?_
          refine V.istore_n hc dX6_spreadIn_75 rfl rfl (lo' := [(16, o), (0, a1), (0, h 26 o (h 39 1 ((a1 * 12) + l4))), (0, l3), (0, l4), (0, h 39 1 ((a1 * 12) + l4))]) rfl ?_
          refine V.aload_n (t := 6) hc dX6_spreadIn_76 rfl rfl ?_
          refine V.gR hc gR_X6_37 (i' := o) rfl dX6_spreadIn_77 ?_
          refine V.iload hc dX6_spreadIn_80 rfl ?_
          refine V.ald hc ak_26 g10 dX6_spreadIn_82 ?_
          refine V.iload_n hc dX6_spreadIn_83 rfl rfl ?_
          refine V.icmp_le hc (tgt := 97) dX6_spreadIn_84 (by decide) g11 g12 (fun c38 => ?_) (fun c38 => ?_)
          · refine V.iload_n hc dX6_spreadIn_97 rfl rfl ?_
            refine V.istore_n hc dX6_spreadIn_98 rfl rfl (lo' := [(16, o), (0, a1), (0, h 26 o (h 39 1 ((a1 * 12) + l4))), (0, l3), (0, l4), (0, h 39 1 ((a1 * 12) + l4))]) rfl ?_
            refine V.drop (lo' := [(16, o), (0, a1), (0, h 26 o (h 39 1 ((a1 * 12) + l4))), (0, l3), (0, l4), (1, 0)]) ⟨Or.inr rfl, Or.inr rfl, Or.inr rfl, Or.inr rfl, Or.inr rfl, Or.inl rfl, trivial⟩ ?_
            exact kJ29 _ _ ⟨(fun q => absurd q c31), fun _ => ⟨fun _ => ⟨fun _ => ⟨rfl, rfl⟩, (fun q => absurd c38 q)⟩, (fun q => absurd c35 q)⟩⟩
          · have q39 := q37 c38
            have g13 := q39
            refine V.aload_n (t := 6) hc dX6_spreadIn_87 rfl rfl ?_
            refine V.gR hc gR_X6_37 (i' := o) rfl dX6_spreadIn_88 ?_
            refine V.iload hc dX6_spreadIn_91 rfl ?_
            refine V.ald hc ak_26 g13 dX6_spreadIn_93 ?_
            refine V.goto hc (tgt := 98) dX6_spreadIn_94 (by decide) ?_
            refine V.istore_n hc dX6_spreadIn_98 rfl rfl (lo' := [(16, o), (0, a1), (0, h 26 o (h 39 1 ((a1 * 12) + l4))), (0, h 26 o (h 39 1 ((a1 * 12) + l4))), (0, l4), (0, h 39 1 ((a1 * 12) + l4))]) rfl ?_
            refine V.drop (lo' := [(16, o), (0, a1), (0, h 26 o (h 39 1 ((a1 * 12) + l4))), (0, h 26 o (h 39 1 ((a1 * 12) + l4))), (0, l4), (1, 0)]) ⟨Or.inr rfl, Or.inr rfl, Or.inr rfl, Or.inr rfl, Or.inr rfl, Or.inl rfl, trivial⟩ ?_
            exact kJ29 _ _ ⟨(fun q => absurd q c31), fun _ => ⟨fun _ => ⟨(fun q => absurd q c38), fun _ => ⟨rfl, rfl⟩⟩, (fun q => absurd c35 q)⟩⟩
        · have q40 := q34 c35
          obtain ⟨g14, g15, g16, q41, q42⟩ := q40
          refine V.aload_n (t := 6) hc dX6_spreadIn_53 rfl rfl ?_
          refine V.gR hc gR_X6_37 (i' := o) rfl dX6_spreadIn_54 ?_
          refine V.iload hc dX6_spreadIn_57 rfl ?_
          refine V.ald hc ak_26 g14 dX6_spreadIn_59 ?_
          refine V.iload_n hc dX6_spreadIn_60 rfl rfl ?_
          refine V.icmp_ge hc (tgt := 74) dX6_spreadIn_61 (by decide) g15 g16 (fun c43 => ?_) (fun c43 => ?_)
          · have q44 := q41 c43
            obtain ⟨g17, g18, g19, q45⟩ := q44
            refine V.iload_n hc dX6_spreadIn_74 rfl rfl ?_
            refine V.istore_n hc dX6_spreadIn_75 rfl rfl (lo' := [(16, o), (0, a1), (0, l2), (0, l3), (0, l4), (0, h 39 1 ((a1 * 12) + l4))]) rfl ?_
            refine V.aload_n (t := 6) hc dX6_spreadIn_76 rfl rfl ?_
            refine V.gR hc gR_X6_37 (i' := o) rfl dX6_spreadIn_77 ?_
            refine V.iload hc dX6_spreadIn_80 rfl ?_
            refine V.ald hc ak_26 g17 dX6_spreadIn_82 ?_
            refine V.iload_n hc dX6_spreadIn_83 rfl rfl ?_
            refine V.icmp_le hc (tgt := 97) dX6_spreadIn_84 (by decide) g18 g19 (fun c46 => ?_) (fun c46 => ?_)
            · refine V.iload_n hc dX6_spreadIn_97 rfl rfl ?_
              refine V.istore_n hc dX6_spreadIn_98 rfl rfl (lo' := [(16, o), (0, a1), (0, l2), (0, l3), (0, l4), (0, h 39 1 ((a1 * 12) + l4))]) rfl ?_
              refine V.drop (lo' := [(16, o), (0, a1), (0, l2), (0, l3), (0, l4), (1, 0)]) ⟨Or.inr rfl, Or.inr rfl, Or.inr rfl, Or.inr rfl, Or.inr rfl, Or.inl rfl, trivial⟩ ?_
              exact kJ29 _ _ ⟨(fun q => absurd q c31), fun _ => ⟨(fun q => absurd q c35), fun _ => ⟨fun _ => ⟨fun _ => ⟨rfl, rfl⟩, (fun q => absurd c46 q)⟩, (fun q => absurd c43 q)⟩⟩⟩
            · have q47 := q45 c46
              have g20 := q47
              refine V.aload_n (t := 6) hc dX6_spreadIn_87 rfl rfl ?_
              refine V.gR hc gR_X6_37 (i' := o) rfl dX6_spreadIn_88 ?_
              refine V.iload hc dX6_spreadIn_91 rfl ?_
              refine V.ald hc ak_26 g20 dX6_spreadIn_93 ?_
              refine V.goto hc (tgt := 98) dX6_spreadIn_94 (by decide) ?_
              refine V.istore_n hc dX6_spreadIn_98 rfl rfl (lo' := [(16, o), (0, a1), (0, l2), (0, h 26 o (h 39 1 ((a1 * 12) + l4))), (0, l4), (0, h 39 1 ((a1 * 12) + l4))]) rfl ?_
              refine V.drop (lo' := [(16, o), (0, a1), (0, l2), (0, h 26 o (h 39 1 ((a1 * 12) + l4))), (0, l4), (1, 0)]) ⟨Or.inr rfl, Or.inr rfl, Or.inr rfl, Or.inr rfl, Or.inr rfl, Or.inl rfl, trivial⟩ ?_
              exact kJ29 _ _ ⟨(fun q => absurd q c31), fun _ => ⟨(fun q => absurd q c35), fun _ => ⟨fun _ => ⟨(fun q => absurd q c46), fun _ => ⟨rfl, rfl⟩⟩, (fun q => absurd c43 q)⟩⟩⟩
          · have q48 := q42 c43
            obtain ⟨g21, g22, g23, g24, q49⟩ := q48
            refine V.aload_n (t := 6) hc dX6_spreadIn_64 rfl rfl ?_
            refine V.gR hc gR_X6_37 (i' := o) rfl dX6_spreadIn_65 ?_
            refine V.iload hc dX6_spreadIn_68 rfl ?_
            refine V.ald hc ak_26 g21 dX6_spreadIn_70 ?_
            refine V.goto hc (tgt := 75) dX6_spreadIn_71 (by decide) ?_
            refine V.istore_n hc dX6_spreadIn_75 rfl rfl (lo' := [(16, o), (0, a1), (0, h 26 o (h 39 1 ((a1 * 12) + l4))), (0, l3), (0, l4), (0, h 39 1 ((a1 * 12) + l4))]) rfl ?_
            refine V.aload_n (t := 6) hc dX6_spreadIn_76 rfl rfl ?_
            refine V.gR hc gR_X6_37 (i' := o) rfl dX6_spreadIn_77 ?_
            refine V.iload hc dX6_spreadIn_80 rfl ?_
            refine V.ald hc ak_26 g22 dX6_spreadIn_82 ?_
            refine V.iload_n hc dX6_spreadIn_83 rfl rfl ?_
            refine V.icmp_le hc (tgt := 97) dX6_spreadIn_84 (by decide) g23 g24 (fun c50 => ?_) (fun c50 => ?_)
            · refine V.iload_n hc dX6_spreadIn_97 rfl rfl ?_
              refine V.istore_n hc dX6_spreadIn_98 rfl rfl (lo' := [(16, o), (0, a1), (0, h 26 o (h 39 1 ((a1 * 12) + l4))), (0, l3), (0, l4), (0, h 39 1 ((a1 * 12) + l4))]) rfl ?_
              refine V.drop (lo' := [(16, o), (0, a1), (0, h 26 o (h 39 1 ((a1 * 12) + l4))), (0, l3), (0, l4), (1, 0)]) ⟨Or.inr rfl, Or.inr rfl, Or.inr rfl, Or.inr rfl, Or.inr rfl, Or.inl rfl, trivial⟩ ?_
              exact kJ29 _ _ ⟨(fun q => absurd q c31), fun _ => ⟨(fun q => absurd q c35), fun _ => ⟨(fun q => absurd q c43), fun _ => ⟨fun _ => ⟨rfl, rfl⟩, (fun q => absurd c50 q)⟩⟩⟩⟩
            · have q51 := q49 c50
              have g25 := q51
              refine V.aload_n (t := 6) hc dX6_spreadIn_87 rfl rfl ?_
              refine V.gR hc gR_X6_37 (i' := o) rfl dX6_spreadIn_88 ?_
              refine V.iload hc dX6_spreadIn_91 rfl ?_
              refine V.ald hc ak_26 g25 dX6_spreadIn_93 ?_
              refine V.goto hc (tgt := 98) dX6_spreadIn_94 (by decide) ?_
              refine V.istore_n hc dX6_spreadIn_98 rfl rfl (lo' := [(16, o), (0, a1), (0, h 26 o (h 39 1 ((a1 * 12) + l4))), (0, h 26 o (h 39 1 ((a1 * 12) + l4))), (0, l4), (0, h 39 1 ((a1 * 12) + l4))]) rfl ?_
              refine V.drop (lo' := [(16, o), (0, a1), (0, h 26 o (h 39 1 ((a1 * 12) + l4))), (0, h 26 o (h 39 1 ((a1 * 12) + l4))), (0, l4), (1, 0)]) ⟨Or.inr rfl, Or.inr rfl, Or.inr rfl, Or.inr rfl, Or.inr rfl, Or.inl rfl, trivial⟩ ?_
              exact kJ29 _ _ ⟨(fun q => absurd q c31), fun _ => ⟨(fun q => absurd q c35), fun _ => ⟨(fun q => absurd q c43), fun _ => ⟨(fun q => absurd q c50), fun _ => ⟨rfl, rfl⟩⟩⟩⟩⟩
theorem qX6_spreadIn (G : GG) (l : Launch) (o : Int) (a1 : Int) (h : HP) (P : Int → HP → Prop) (hw : wX6_spreadIn o a1 h P) : CnI l G yX6_spreadIn cX6_spreadIn 6 (some .int) 8 [(16, o), (0, a1)] h P := by
  refine CnI.of (lo := [(16, o), (0, a1), (1, 0), (1, 0), (1, 0), (1, 0)]) (by decide) rfl rfl rfl ?_
  intro p e s m args below meth c hc hr
  have hc : VC G p (rmD 8 0) s m args meth c RX6 cX6_spreadIn 6 8 := hc
  refine V.iconst hc dX6_spreadIn_0 ?_
  refine V.istore_n hc dX6_spreadIn_1 rfl rfl (lo' := [(16, o), (0, a1), (0, 0), (1, 0), (1, 0), (1, 0)]) rfl ?_
  refine V.iconst hc dX6_spreadIn_2 ?_
  refine V.istore_n hc dX6_spreadIn_3 rfl rfl (lo' := [(16, o), (0, a1), (0, 0), (0, (-1)), (1, 0), (1, 0)]) rfl ?_
  refine V.iconst hc dX6_spreadIn_4 ?_
  refine V.istore hc dX6_spreadIn_5 rfl (lo' := [(16, o), (0, a1), (0, 0), (0, (-1)), (0, 0), (1, 0)]) rfl ?_
  obtain ⟨f52, hw⟩ := hw
  refine tX6_spreadIn_7 hc hr ?_ f52 _ _ _ hw
  · intro l53 l54 hw
    refine V.iload_n hc dX6_spreadIn_105 rfl rfl ?_
    refine V.iconst hc dX6_spreadIn_106 ?_
    obtain ⟨q57, hw⟩ := hw
    have kJ58 : ∀ t56 : Int, ((¬ l54 = (-1) → t56 = l54 - l53) ∧ (l54 = (-1) → t56 = 0)) → V G p l e (rmD 8 0) s m args below meth c (MQ below (QI G P) args s 0 0 (va_Aof G)) 6 117 [(1, 0), (1, 0), (1, 0), (1, 0), (1, 0), (1, 0)] [(0, t56)] h 0 := by
      intro t56 he
      replace hw := hw t56 he
      clear he
      exact V.iret hc hr dX6_spreadIn_117 hw
    have g55 := q57
    refine V.icmp_ne hc (tgt := 114) dX6_spreadIn_107 (by decide) g55 (by omega) (fun c59 => ?_) (fun c59 => ?_)
    · refine V.iload_n hc dX6_spreadIn_114 rfl rfl ?_
      refine V.iload_n hc dX6_spreadIn_115 rfl rfl ?_
      refine V.isub hc dX6_spreadIn_116 ?_
      refine V.drop (lo' := [(1, 0), (1, 0), (1, 0), (1, 0), (1, 0), (1, 0)]) ⟨Or.inr rfl, Or.inr rfl, Or.inl rfl, Or.inl rfl, Or.inr rfl, Or.inr rfl, trivial⟩ ?_
      exact kJ58 _ ⟨fun _ => rfl, (fun q => absurd q c59)⟩
    · refine V.iconst hc dX6_spreadIn_110 ?_
      refine V.goto hc (tgt := 117) dX6_spreadIn_111 (by decide) ?_
      refine V.drop (lo' := [(1, 0), (1, 0), (1, 0), (1, 0), (1, 0), (1, 0)]) ⟨Or.inr rfl, Or.inr rfl, Or.inl rfl, Or.inl rfl, Or.inr rfl, Or.inr rfl, trivial⟩ ?_
      exact kJ58 _ ⟨(fun q => absurd c59 q), fun _ => rfl⟩
theorem tX2_widestSpread_34 {G : GG} {p : Program} {l : Launch} {e : Jvm.Env} {s : State} {m : MethodId} {args : Array Value} {below : List Frame} {meth : Method} {c : Code} {P : Int → HP → Prop} (hc : VC G p (rmD 12 0) s m args meth c RX2 cX2_widestSpread 7 12) (hr : meth.sig.returnType = some .int) {o : Int} {a1 : Int} {a2 : Int} {l4 : Int} {K98 : Int → HP → Prop} (hK98 : ∀ (x3 : Int) (h : HP), K98 x3 h → V G p l e (rmD 12 0) s m args below meth c (MQ below (QI G P) args s 0 0 (va_Aof G)) 7 98 [(1, 0), (1, 0), (1, 0), (0, x3), (1, 0), (1, 0), (1, 0)] [] h 0) : ∀ (f : Nat) (l3 : Int) (l5 : Int) (h : HP), wX2_widestSpread_34 o a1 a2 l4 K98 f l3 l5 h → V G p l e (rmD 12 0) s m args below meth c (MQ below (QI G P) args s 0 0 (va_Aof G)) 7 34 [(12, o), (0, a1), (0, a2), (0, l3), (0, l4), (0, l5), (1, 0)] [] h 0 := by
  intro f
  induction f with
  | zero =>
    intro l3 l5 h hw
    exact hw.elim
  | succ f ih =>
    intro l3 l5 h hw
    refine V.iload hc dX2_widestSpread_34 rfl ?_
    refine V.iload_n hc dX2_widestSpread_36 rfl rfl ?_
    obtain ⟨g4, hw⟩ := hw
    obtain ⟨g5, hw⟩ := hw
    refine V.icmp_ge hc (tgt := 98) dX2_widestSpread_37 (by decide) g4 g5 (fun c6 => ?_) (fun c6 => ?_)
    · replace hw := hw.1 c6
      refine V.drop (lo' := [(1, 0), (1, 0), (1, 0), (0, l3), (1, 0), (1, 0), (1, 0)]) ⟨Or.inl rfl, Or.inl rfl, Or.inl rfl, Or.inr rfl, Or.inl rfl, Or.inl rfl, Or.inr rfl, trivial⟩ ?_
      exact hK98 _ _ hw
    · replace hw := hw.2 c6
      refine V.aload_n (t := 2) hc dX2_widestSpread_40 rfl rfl ?_
      refine V.gR hc gR_X2_23 (i' := 12) rfl dX2_widestSpread_41 ?_
      refine V.gI hc gI_X2_56 rfl dX2_widestSpread_44 ?_
      refine V.iload hc dX2_widestSpread_47 rfl ?_
      obtain ⟨g7, hw⟩ := hw
      obtain ⟨g8, hw⟩ := hw
      refine V.icmp_ge hc (tgt := 98) dX2_widestSpread_49 (by decide) g7 g8 (fun c9 => ?_) (fun c9 => ?_)
      · replace hw := hw.1 c9
        refine V.drop (lo' := [(1, 0), (1, 0), (1, 0), (0, l3), (1, 0), (1, 0), (1, 0)]) ⟨Or.inl rfl, Or.inl rfl, Or.inl rfl, Or.inr rfl, Or.inl rfl, Or.inl rfl, Or.inr rfl, trivial⟩ ?_
        exact hK98 _ _ hw
      · replace hw := hw.2 c9
        refine V.aload_n (t := 2) hc dX2_widestSpread_52 rfl rfl ?_
        refine V.gR hc gR_X2_23 (i' := 12) rfl dX2_widestSpread_53 ?_
        refine V.iload hc dX2_widestSpread_56 rfl ?_
        refine V.aload_n (t := 2) hc dX2_widestSpread_58 rfl rfl ?_
        refine V.gR hc gR_X2_23 (i' := 12) rfl dX2_widestSpread_59 ?_
        refine V.gI hc gI_X2_56 rfl dX2_widestSpread_62 ?_
        refine V.isub hc dX2_widestSpread_65 ?_
        refine V.callVV hc (qX6_advance G l _ _ _ _ hw) mo_X6_advance ml_X2_63 (by rfl) rfl rfl (as := [(0, l4 - (h 6 12 1))]) rfl rfl rfl rfl rfl ⟨Nat.zero_le _, Nat.zero_le _⟩ dX2_widestSpread_66 (fun h10 hw => ?_)
        refine V.aload_n (t := 2) hc dX2_widestSpread_69 rfl rfl ?_
        refine V.gR hc gR_X2_23 (i' := 12) rfl dX2_widestSpread_70 ?_
        refine V.iload_n hc dX2_widestSpread_73 rfl rfl ?_
        refine V.callVI hc (qX6_spreadIn G l _ _ _ _ hw) mo_X6_spreadIn ml_X2_85 (by rfl) rfl rfl (as := [(0, a1)]) rfl rfl rfl rfl rfl ⟨Nat.zero_le _, Nat.zero_le _⟩ dX2_widestSpread_74 (fun x12 h11 hw => ?_)
        refine V.istore hc dX2_widestSpread_77 rfl (lo' := [(12, o), (0, a1), (0, a2), (0, l3), (0, l4), (0, l5), (0, x12)]) rfl ?_
        refine V.iload hc dX2_widestSpread_79 rfl ?_
        refine V.iload_n hc dX2_widestSpread_81 rfl rfl ?_
        obtain ⟨q16, hw⟩ := hw
        have kJ17 : ∀ t15 : Int, ((x12 ≤ l3 → t15 = l3) ∧ (¬ x12 ≤ l3 → t15 = x12)) → V G p l e (rmD 12 0) s m args below meth c (MQ below (QI G P) args s 0 0 (va_Aof G)) 7 91 [(12, o), (0, a1), (0, a2), (1, 0), (0, l4), (0, l5), (1, 0)] [(0, t15)] h11 0 := by
          intro t15 he
          replace hw := hw t15 he
          clear he
          refine V.istore_n hc dX2_widestSpread_91 rfl rfl (lo' := [(12, o), (0, a1), (0, a2), (0, t15), (0, l4), (0, l5), (1, 0)]) rfl ?_
          refine V.iinc hc dX2_widestSpread_92 rfl rfl (lo' := [(12, o), (0, a1), (0, a2), (0, t15), (0, l4), (0, l5 + 1), (1, 0)]) rfl ?_
          refine V.goto hc (tgt := 34) dX2_widestSpread_95 (by decide) ?_
          exact ih _ _ _ hw
        obtain ⟨g13, g14⟩ := q16
        refine V.icmp_le hc (tgt := 90) dX2_widestSpread_82 (by decide) g13 g14 (fun c18 => ?_) (fun c18 => ?_)
        · refine V.iload_n hc dX2_widestSpread_90 rfl rfl ?_
          refine V.drop (lo' := [(12, o), (0, a1), (0, a2), (1, 0), (0, l4), (0, l5), (1, 0)]) ⟨Or.inr rfl, Or.inr rfl, Or.inr rfl, Or.inl rfl, Or.inr rfl, Or.inr rfl, Or.inl rfl, trivial⟩ ?_
          exact kJ17 _ ⟨fun _ => rfl, (fun q => absurd c18 q)⟩
        · refine V.iload hc dX2_widestSpread_85 rfl ?_
          refine V.goto hc (tgt := 91) dX2_widestSpread_87 (by decide) ?_
          refine V.drop (lo' := [(12, o), (0, a1), (0, a2), (1, 0), (0, l4), (0, l5), (1, 0)]) ⟨Or.inr rfl, Or.inr rfl, Or.inr rfl, Or.inl rfl, Or.inr rfl, Or.inr rfl, Or.inl rfl, trivial⟩ ?_
          exact kJ17 _ ⟨(fun q => absurd q c18), fun _ => rfl⟩
theorem qX2_widestSpread (G : GG) (l : Launch) (o : Int) (a1 : Int) (a2 : Int) (h : HP) (P : Int → HP → Prop) (hw : wX2_widestSpread o a1 a2 h P) : CnI l G yX2_widestSpread cX2_widestSpread 7 (some .int) 12 [(12, o), (0, a1), (0, a2)] h P := by
  refine CnI.of (lo := [(12, o), (0, a1), (0, a2), (1, 0), (1, 0), (1, 0), (1, 0)]) (by decide) rfl rfl rfl ?_
  intro p e s m args below meth c hc hr
  have hc : VC G p (rmD 12 0) s m args meth c RX2 cX2_widestSpread 7 12 := hc
  refine V.aload_n (t := 2) hc dX2_widestSpread_0 rfl rfl ?_
  refine V.gR hc gR_X2_23 (i' := 12) rfl dX2_widestSpread_1 ?_
  refine V.aload_n (t := 2) hc dX2_widestSpread_4 rfl rfl ?_
  refine V.gR hc gR_X2_19 (i' := 10) rfl dX2_widestSpread_5 ?_
  refine V.callVV hc (qX6_copyFrom G l _ _ _ _ hw) mo_X6_copyFrom ml_X2_26 (by rfl) rfl rfl (as := [(16, 10)]) rfl rfl rfl rfl rfl ⟨Nat.zero_le _, Nat.zero_le _⟩ dX2_widestSpread_8 (fun h1 hw => ?_)
  refine V.aload_n (t := 2) hc dX2_widestSpread_11 rfl rfl ?_
  refine V.gR hc gR_X2_23 (i' := 12) rfl dX2_widestSpread_12 ?_
  refine V.iload_n hc dX2_widestSpread_15 rfl rfl ?_
  refine V.callVI hc (qX6_spreadIn G l _ _ _ _ hw) mo_X6_spreadIn ml_X2_85 (by rfl) rfl rfl (as := [(0, a1)]) rfl rfl rfl rfl rfl ⟨Nat.zero_le _, Nat.zero_le _⟩ dX2_widestSpread_16 (fun x3 h2 hw => ?_)
  refine V.istore_n hc dX2_widestSpread_19 rfl rfl (lo' := [(12, o), (0, a1), (0, a2), (0, x3), (1, 0), (1, 0), (1, 0)]) rfl ?_
  refine V.aload_n (t := 2) hc dX2_widestSpread_20 rfl rfl ?_
  refine V.gR hc gR_X2_19 (i' := 10) rfl dX2_widestSpread_21 ?_
  refine V.gI hc gI_X2_56 rfl dX2_widestSpread_24 ?_
  refine V.iload_n hc dX2_widestSpread_27 rfl rfl ?_
  refine V.iadd hc dX2_widestSpread_28 ?_
  refine V.istore hc dX2_widestSpread_29 rfl (lo' := [(12, o), (0, a1), (0, a2), (0, x3), (0, (h2 6 10 1) + a2), (1, 0), (1, 0)]) rfl ?_
  refine V.iconst hc dX2_widestSpread_31 ?_
  refine V.istore hc dX2_widestSpread_32 rfl (lo' := [(12, o), (0, a1), (0, a2), (0, x3), (0, (h2 6 10 1) + a2), (0, 0), (1, 0)]) rfl ?_
  obtain ⟨f19, hw⟩ := hw
  refine tX2_widestSpread_34 hc hr ?_ f19 _ _ _ hw
  · intro l20 h21 hw
    refine V.iload_n hc dX2_widestSpread_98 rfl rfl ?_
    exact V.iret hc hr dX2_widestSpread_99 hw
theorem qX3_piecesAt (G : GG) (l : Launch) (a0 : Int) (a1 : Int) (a2 : Int) (a3 : Int) (h : HP) (P : Int → HP → Prop) (hw : wX3_piecesAt a0 a1 a2 a3 h P) : CnI l G yX3_piecesAt cX3_piecesAt 4 (some .int) 8 [(0, a0), (0, a1), (0, a2), (0, a3)] h P := by
  refine CnI.of (lo := [(0, a0), (0, a1), (0, a2), (0, a3)]) (by decide) rfl rfl rfl ?_
  intro p e s m args below meth c hc hr
  have hc : VC G p (rmD 8 0) s m args meth c RX3 cX3_piecesAt 4 8 := hc
  refine V.iload_n hc dX3_piecesAt_0 rfl rfl ?_
  refine V.iload_n hc dX3_piecesAt_1 rfl rfl ?_
  obtain ⟨q4, hw⟩ := hw
  have kJ5 : ∀ t3 : Int, ((a2 < a0 → t3 = (a1 * a2) + (a3 * (a0 - a2))) ∧ (¬ a2 < a0 → t3 = a1 * a0)) → V G p l e (rmD 8 0) s m args below meth c (MQ below (QI G P) args s 0 0 (va_Aof G)) 4 20 [(1, 0), (1, 0), (1, 0), (1, 0)] [(0, t3)] h 0 := by
    intro t3 he
    replace hw := hw t3 he
    clear he
    exact V.iret hc hr dX3_piecesAt_20 hw
  obtain ⟨g1, g2⟩ := q4
  refine V.icmp_gt hc (tgt := 11) dX3_piecesAt_2 (by decide) g1 g2 (fun c6 => ?_) (fun c6 => ?_)
  · refine V.iload_n hc dX3_piecesAt_11 rfl rfl ?_
    refine V.iload_n hc dX3_piecesAt_12 rfl rfl ?_
    refine V.imul hc dX3_piecesAt_13 ?_
    refine V.iload_n hc dX3_piecesAt_14 rfl rfl ?_
    refine V.iload_n hc dX3_piecesAt_15 rfl rfl ?_
    refine V.iload_n hc dX3_piecesAt_16 rfl rfl ?_
    refine V.isub hc dX3_piecesAt_17 ?_
    refine V.imul hc dX3_piecesAt_18 ?_
    refine V.iadd hc dX3_piecesAt_19 ?_
    refine V.drop (lo' := [(1, 0), (1, 0), (1, 0), (1, 0)]) ⟨Or.inl rfl, Or.inl rfl, Or.inl rfl, Or.inl rfl, trivial⟩ ?_
    exact kJ5 _ ⟨fun _ => rfl, (fun q => absurd c6 q)⟩
  · refine V.iload_n hc dX3_piecesAt_5 rfl rfl ?_
    refine V.iload_n hc dX3_piecesAt_6 rfl rfl ?_
    refine V.imul hc dX3_piecesAt_7 ?_
    refine V.goto hc (tgt := 20) dX3_piecesAt_8 (by decide) ?_
    refine V.drop (lo' := [(1, 0), (1, 0), (1, 0), (1, 0)]) ⟨Or.inl rfl, Or.inl rfl, Or.inl rfl, Or.inl rfl, trivial⟩ ?_
    exact kJ5 _ ⟨(fun q => absurd q c6), fun _ => rfl⟩
theorem tX3_sumAt_83 {G : GG} {p : Program} {l : Launch} {e : Jvm.Env} {s : State} {m : MethodId} {args : Array Value} {below : List Frame} {meth : Method} {c : Code} {P : Int → HP → Prop} (hc : VC G p (rmD 9 0) s m args meth c RX3 cX3_sumAt 5 9) (hr : meth.sig.returnType = some .int) {o : Int} {a1 : Int} {l2 : Int} {l3 : Int} {h : HP} {K4 : Int → Int → HP → Prop} (hK4 : ∀ (x2 : Int) (x3 : Int) (h : HP), K4 x2 x3 h → V G p l e (rmD 9 0) s m args below meth c (MQ below (QI G P) args s 0 0 (va_Aof G)) 5 4 [(13, o), (0, a1), (0, x2), (0, x3), (1, 0)] [] h 0) (hw : wX3_sumAt_83 o a1 l2 l3 K4 h) : V G p l e (rmD 9 0) s m args below meth c (MQ below (QI G P) args s 0 0 (va_Aof G)) 5 83 [(13, o), (0, a1), (0, l2), (0, l3), (1, 0)] [] h 0 := by
  refine V.iinc hc dX3_sumAt_83 rfl rfl (lo' := [(13, o), (0, a1), (0, l2), (0, l3 + 1), (1, 0)]) rfl ?_
  refine V.goto hc (tgt := 4) dX3_sumAt_86 (by decide) ?_
  exact hK4 _ _ _ hw
theorem tX3_sumAt_4 {G : GG} {p : Program} {l : Launch} {e : Jvm.Env} {s : State} {m : MethodId} {args : Array Value} {below : List Frame} {meth : Method} {c : Code} {P : Int → HP → Prop} (hc : VC G p (rmD 9 0) s m args meth c RX3 cX3_sumAt 5 9) (hr : meth.sig.returnType = some .int) {o : Int} {a1 : Int} {K89 : Int → HP → Prop} (hK89 : ∀ (x2 : Int) (h : HP), K89 x2 h → V G p l e (rmD 9 0) s m args below meth c (MQ below (QI G P) args s 0 0 (va_Aof G)) 5 89 [(1, 0), (1, 0), (0, x2), (1, 0), (1, 0)] [] h 0) : ∀ (f : Nat) (l2 : Int) (l3 : Int) (h : HP), wX3_sumAt_4 o a1 K89 f l2 l3 h → V G p l e (rmD 9 0) s m args below meth c (MQ below (QI G P) args s 0 0 (va_Aof G)) 5 4 [(13, o), (0, a1), (0, l2), (0, l3), (1, 0)] [] h 0 := by
  intro f
  induction f with
  | zero =>
    intro l2 l3 h hw
    exact hw.elim
  | succ f ih =>
    intro l2 l3 h hw
    refine V.iload_n hc dX3_sumAt_4 rfl rfl ?_
    refine V.aload_n (t := 3) hc dX3_sumAt_5 rfl rfl ?_
    refine V.gR hc gR_X3_18 (i' := 1) rfl dX3_sumAt_6 ?_
    refine V.gI hc gI_X3_44 rfl dX3_sumAt_9 ?_
    obtain ⟨g1, hw⟩ := hw
    obtain ⟨g2, hw⟩ := hw
    refine V.icmp_ge hc (tgt := 89) dX3_sumAt_12 (by decide) g1 g2 (fun c3 => ?_) (fun c3 => ?_)
    · replace hw := hw.1 c3
      refine V.drop (lo' := [(1, 0), (1, 0), (0, l2), (1, 0), (1, 0)]) ⟨Or.inl rfl, Or.inl rfl, Or.inr rfl, Or.inl rfl, Or.inr rfl, trivial⟩ ?_
      exact hK89 _ _ hw
    · replace hw := hw.2 c3
      refine V.iload_n hc dX3_sumAt_15 rfl rfl ?_
      refine V.iconst hc dX3_sumAt_16 ?_
      refine V.imul hc dX3_sumAt_17 ?_
      refine V.iconst hc dX3_sumAt_18 ?_
      refine V.iadd hc dX3_sumAt_19 ?_
      refine V.istore hc dX3_sumAt_20 rfl (lo' := [(13, o), (0, a1), (0, l2), (0, l3), (0, (l3 * 3) + 0)]) rfl ?_
      refine V.aload_n (t := 3) hc dX3_sumAt_22 rfl rfl ?_
      refine V.gR hc gR_X3_22 (i' := 10) rfl dX3_sumAt_23 ?_
      refine V.gR hc gR_X3_49 (i' := 10) rfl dX3_sumAt_26 ?_
      refine V.iload hc dX3_sumAt_29 rfl ?_
      refine V.callVI hc (qX1_has G l _ _ _ _ hw) mo_X1_has ml_X3_55 (by rfl) rfl rfl (as := [(0, (l3 * 3) + 0)]) rfl rfl rfl rfl rfl ⟨Nat.zero_le _, Nat.zero_le _⟩ dX3_sumAt_31 (fun x5 h4 hw => ?_)
      obtain ⟨g6, hw⟩ := hw
      refine V.if_eq hc (tgt := 83) dX3_sumAt_34 (by decide) g6 (fun c7 => ?_) (fun c7 => ?_)
      · replace hw := hw.1 c7
        refine V.drop (lo' := [(13, o), (0, a1), (0, l2), (0, l3), (1, 0)]) ⟨Or.inr rfl, Or.inr rfl, Or.inr rfl, Or.inr rfl, Or.inl rfl, trivial⟩ ?_
        exact tX3_sumAt_83 hc hr (fun y2 y3 hy hw => by exact ih _ _ _ hw) hw
      · replace hw := hw.2 c7
        refine V.iload_n hc dX3_sumAt_37 rfl rfl ?_
        refine V.iload_n hc dX3_sumAt_38 rfl rfl ?_
        refine V.aload_n (t := 3) hc dX3_sumAt_39 rfl rfl ?_
        refine V.gR hc gR_X3_22 (i' := 10) rfl dX3_sumAt_40 ?_
        refine V.gR hc gR_X3_49 (i' := 10) rfl dX3_sumAt_43 ?_
        refine V.gR hc gR_X3_59 (i' := 10) rfl dX3_sumAt_46 ?_
        refine V.iload hc dX3_sumAt_49 rfl ?_
        obtain ⟨g8, hw⟩ := hw
        refine V.ald hc ak_13 g8 dX3_sumAt_51 ?_
        refine V.aload_n (t := 3) hc dX3_sumAt_52 rfl rfl ?_
        refine V.gR hc gR_X3_22 (i' := 10) rfl dX3_sumAt_53 ?_
        refine V.gR hc gR_X3_49 (i' := 10) rfl dX3_sumAt_56 ?_
        refine V.gR hc gR_X3_63 (i' := 10) rfl dX3_sumAt_59 ?_
        refine V.iload hc dX3_sumAt_62 rfl ?_
        obtain ⟨g9, hw⟩ := hw
        refine V.ald hc ak_14 g9 dX3_sumAt_64 ?_
        refine V.aload_n (t := 3) hc dX3_sumAt_65 rfl rfl ?_
        refine V.gR hc gR_X3_22 (i' := 10) rfl dX3_sumAt_66 ?_
        refine V.gR hc gR_X3_49 (i' := 10) rfl dX3_sumAt_69 ?_
        refine V.gR hc gR_X3_66 (i' := 10) rfl dX3_sumAt_72 ?_
        refine V.iload hc dX3_sumAt_75 rfl ?_
        obtain ⟨g10, hw⟩ := hw
        refine V.ald hc ak_15 g10 dX3_sumAt_77 ?_
        refine V.callSI hc (qX3_piecesAt G l _ _ _ _ _ _ hw) mo_X3_piecesAt ml_X3_36 (as := [(0, a1), (0, h4 13 10 ((l3 * 3) + 0)), (0, h4 14 10 ((l3 * 3) + 0)), (0, h4 15 10 ((l3 * 3) + 0))]) rfl rfl rfl rfl rfl ⟨Nat.zero_le _, Nat.zero_le _⟩ dX3_sumAt_78 (fun x12 h11 hw => ?_)
        refine V.iadd hc dX3_sumAt_81 ?_
        refine V.istore_n hc dX3_sumAt_82 rfl rfl (lo' := [(13, o), (0, a1), (0, l2 + x12), (0, l3), (0, (l3 * 3) + 0)]) rfl ?_
        refine V.drop (lo' := [(13, o), (0, a1), (0, l2 + x12), (0, l3), (1, 0)]) ⟨Or.inr rfl, Or.inr rfl, Or.inr rfl, Or.inr rfl, Or.inl rfl, trivial⟩ ?_
        exact tX3_sumAt_83 hc hr (fun y2 y3 hy hw => by exact ih _ _ _ hw) hw
theorem qX3_sumAt (G : GG) (l : Launch) (o : Int) (a1 : Int) (h : HP) (P : Int → HP → Prop) (hw : wX3_sumAt o a1 h P) : CnI l G yX3_sumAt cX3_sumAt 5 (some .int) 9 [(13, o), (0, a1)] h P := by
  refine CnI.of (lo := [(13, o), (0, a1), (1, 0), (1, 0), (1, 0)]) (by decide) rfl rfl rfl ?_
  intro p e s m args below meth c hc hr
  have hc : VC G p (rmD 9 0) s m args meth c RX3 cX3_sumAt 5 9 := hc
  refine V.iconst hc dX3_sumAt_0 ?_
  refine V.istore_n hc dX3_sumAt_1 rfl rfl (lo' := [(13, o), (0, a1), (0, 0), (1, 0), (1, 0)]) rfl ?_
  refine V.iconst hc dX3_sumAt_2 ?_
  refine V.istore_n hc dX3_sumAt_3 rfl rfl (lo' := [(13, o), (0, a1), (0, 0), (0, 0), (1, 0)]) rfl ?_
  obtain ⟨f13, hw⟩ := hw
  refine tX3_sumAt_4 hc hr ?_ f13 _ _ _ hw
  · intro l14 h15 hw
    refine V.iload_n hc dX3_sumAt_89 rfl rfl ?_
    exact V.iret hc hr dX3_sumAt_90 hw
theorem tX3_sumOfSecond_4 {G : GG} {p : Program} {l : Launch} {e : Jvm.Env} {s : State} {m : MethodId} {args : Array Value} {below : List Frame} {meth : Method} {c : Code} {P : Int → HP → Prop} (hc : VC G p (rmD 9 0) s m args meth c RX3 cX3_sumOfSecond 4 9) (hr : meth.sig.returnType = some .int) {o : Int} {K60 : Int → HP → Prop} (hK60 : ∀ (x1 : Int) (h : HP), K60 x1 h → V G p l e (rmD 9 0) s m args below meth c (MQ below (QI G P) args s 0 0 (va_Aof G)) 4 60 [(1, 0), (0, x1), (1, 0), (1, 0)] [] h 0) : ∀ (f : Nat) (l1 : Int) (l2 : Int) (h : HP), wX3_sumOfSecond_4 o K60 f l1 l2 h → V G p l e (rmD 9 0) s m args below meth c (MQ below (QI G P) args s 0 0 (va_Aof G)) 4 4 [(13, o), (0, l1), (0, l2), (1, 0)] [] h 0 := by
  intro f
  induction f with
  | zero =>
    intro l1 l2 h hw
    exact hw.elim
  | succ f ih =>
    intro l1 l2 h hw
    refine V.iload_n hc dX3_sumOfSecond_4 rfl rfl ?_
    refine V.aload_n (t := 3) hc dX3_sumOfSecond_5 rfl rfl ?_
    refine V.gR hc gR_X3_18 (i' := 1) rfl dX3_sumOfSecond_6 ?_
    refine V.gI hc gI_X3_44 rfl dX3_sumOfSecond_9 ?_
    obtain ⟨g1, hw⟩ := hw
    obtain ⟨g2, hw⟩ := hw
    refine V.icmp_ge hc (tgt := 60) dX3_sumOfSecond_12 (by decide) g1 g2 (fun c3 => ?_) (fun c3 => ?_)
    · replace hw := hw.1 c3
      refine V.drop (lo' := [(1, 0), (0, l1), (1, 0), (1, 0)]) ⟨Or.inl rfl, Or.inr rfl, Or.inl rfl, Or.inr rfl, trivial⟩ ?_
      exact hK60 _ _ hw
    · replace hw := hw.2 c3
      refine V.iload_n hc dX3_sumOfSecond_15 rfl rfl ?_
      refine V.iconst hc dX3_sumOfSecond_16 ?_
      refine V.imul hc dX3_sumOfSecond_17 ?_
      refine V.iconst hc dX3_sumOfSecond_18 ?_
      refine V.iadd hc dX3_sumOfSecond_19 ?_
      refine V.istore_n hc dX3_sumOfSecond_20 rfl rfl (lo' := [(13, o), (0, l1), (0, l2), (0, (l2 * 3) + 0)]) rfl ?_
      refine V.iload_n hc dX3_sumOfSecond_21 rfl rfl ?_
      refine V.aload_n (t := 3) hc dX3_sumOfSecond_22 rfl rfl ?_
      refine V.gR hc gR_X3_22 (i' := 10) rfl dX3_sumOfSecond_23 ?_
      refine V.gR hc gR_X3_49 (i' := 10) rfl dX3_sumOfSecond_26 ?_
      refine V.iload_n hc dX3_sumOfSecond_29 rfl rfl ?_
      refine V.callVI hc (qX1_has G l _ _ _ _ hw) mo_X1_has ml_X3_55 (by rfl) rfl rfl (as := [(0, (l2 * 3) + 0)]) rfl rfl rfl rfl rfl ⟨Nat.zero_le _, Nat.zero_le _⟩ dX3_sumOfSecond_30 (fun x5 h4 hw => ?_)
      obtain ⟨q9, hw⟩ := hw
      have kJ10 : ∀ t8 : Int, ((x5 = 0 → t8 = 0) ∧ (¬ x5 = 0 → t8 = h4 15 10 ((l2 * 3) + 0))) → V G p l e (rmD 9 0) s m args below meth c (MQ below (QI G P) args s 0 0 (va_Aof G)) 4 52 [(13, o), (1, 0), (0, l2), (1, 0)] [(0, t8), (0, l1)] h4 0 := by
        intro t8 he
        replace hw := hw t8 he
        clear he
        refine V.iadd hc dX3_sumOfSecond_52 ?_
        refine V.istore_n hc dX3_sumOfSecond_53 rfl rfl (lo' := [(13, o), (0, l1 + t8), (0, l2), (1, 0)]) rfl ?_
        refine V.iinc hc dX3_sumOfSecond_54 rfl rfl (lo' := [(13, o), (0, l1 + t8), (0, l2 + 1), (1, 0)]) rfl ?_
        refine V.goto hc (tgt := 4) dX3_sumOfSecond_57 (by decide) ?_
        exact ih _ _ _ hw
      obtain ⟨g6, q11⟩ := q9
      refine V.if_eq hc (tgt := 51) dX3_sumOfSecond_33 (by decide) g6 (fun c12 => ?_) (fun c12 => ?_)
      · refine V.iconst hc dX3_sumOfSecond_51 ?_
        refine V.drop (lo' := [(13, o), (1, 0), (0, l2), (1, 0)]) ⟨Or.inr rfl, Or.inl rfl, Or.inr rfl, Or.inl rfl, trivial⟩ ?_
        exact kJ10 _ ⟨fun _ => rfl, (fun q => absurd c12 q)⟩
      · have q13 := q11 c12
        have g7 := q13
        refine V.aload_n (t := 3) hc dX3_sumOfSecond_36 rfl rfl ?_
        refine V.gR hc gR_X3_22 (i' := 10) rfl dX3_sumOfSecond_37 ?_
        refine V.gR hc gR_X3_49 (i' := 10) rfl dX3_sumOfSecond_40 ?_
        refine V.gR hc gR_X3_66 (i' := 10) rfl dX3_sumOfSecond_43 ?_
        refine V.iload_n hc dX3_sumOfSecond_46 rfl rfl ?_
        refine V.ald hc ak_15 g7 dX3_sumOfSecond_47 ?_
        refine V.goto hc (tgt := 52) dX3_sumOfSecond_48 (by decide) ?_
        refine V.drop (lo' := [(13, o), (1, 0), (0, l2), (1, 0)]) ⟨Or.inr rfl, Or.inl rfl, Or.inr rfl, Or.inl rfl, trivial⟩ ?_
        exact kJ10 _ ⟨(fun q => absurd q c12), fun _ => rfl⟩
theorem qX3_sumOfSecond (G : GG) (l : Launch) (o : Int) (h : HP) (P : Int → HP → Prop) (hw : wX3_sumOfSecond o h P) : CnI l G yX3_sumOfSecond cX3_sumOfSecond 4 (some .int) 9 [(13, o)] h P := by
  refine CnI.of (lo := [(13, o), (1, 0), (1, 0), (1, 0)]) (by decide) rfl rfl rfl ?_
  intro p e s m args below meth c hc hr
  have hc : VC G p (rmD 9 0) s m args meth c RX3 cX3_sumOfSecond 4 9 := hc
  refine V.iconst hc dX3_sumOfSecond_0 ?_
  refine V.istore_n hc dX3_sumOfSecond_1 rfl rfl (lo' := [(13, o), (0, 0), (1, 0), (1, 0)]) rfl ?_
  refine V.iconst hc dX3_sumOfSecond_2 ?_
  refine V.istore_n hc dX3_sumOfSecond_3 rfl rfl (lo' := [(13, o), (0, 0), (0, 0), (1, 0)]) rfl ?_
  obtain ⟨f14, hw⟩ := hw
  refine tX3_sumOfSecond_4 hc hr ?_ f14 _ _ _ hw
  · intro l15 h16 hw
    refine V.iload_n hc dX3_sumOfSecond_60 rfl rfl ?_
    exact V.iret hc hr dX3_sumOfSecond_61 hw
theorem tX3_weigh_16 {G : GG} {p : Program} {l : Launch} {e : Jvm.Env} {s : State} {m : MethodId} {args : Array Value} {below : List Frame} {meth : Method} {c : Code} {P : HP → Prop} (hc : VC G p (rmD 10 0) s m args meth c RX3 cX3_weigh 7 10) (hr : meth.sig.returnType = none) {o : Int} {a1 : Int} {a2 : Int} {a3 : Int} {K71 : Int → HP → Prop} {K51 : Int → Int → HP → Prop} (hK71 : ∀ (x4 : Int) (h : HP), K71 x4 h → V G p l e (rmD 10 0) s m args below meth c (MQ below (QV G P) args s 0 0 (va_Aof G)) 7 71 [(13, o), (1, 0), (1, 0), (0, a3), (0, x4), (1, 0), (1, 0)] [] h 0) (hK51 : ∀ (x4 : Int) (x5 : Int) (h : HP), K51 x4 x5 h → V G p l e (rmD 10 0) s m args below meth c (MQ below (QV G P) args s 0 0 (va_Aof G)) 7 51 [(13, o), (1, 0), (1, 0), (1, 0), (0, x4), (0, x5), (1, 0)] [] h 0) : ∀ (f : Nat) (l4 : Int) (l5 : Int) (h : HP), wX3_weigh_16 o a1 a2 a3 K71 K51 f l4 l5 h → V G p l e (rmD 10 0) s m args below meth c (MQ below (QV G P) args s 0 0 (va_Aof G)) 7 16 [(13, o), (0, a1), (0, a2), (0, a3), (0, l4), (0, l5), (1, 0)] [] h 0 := by
  intro f
  induction f with
  | zero =>
    intro l4 l5 h hw
    exact hw.elim
  | succ f ih =>
    intro l4 l5 h hw
    refine V.iload hc dX3_weigh_16 rfl ?_
    refine V.bipush hc dX3_weigh_18 (by decide) ?_
    obtain ⟨g3, hw⟩ := hw
    refine V.icmp_gt hc (tgt := 71) dX3_weigh_20 (by decide) g3 (by omega) (fun c4 => ?_) (fun c4 => ?_)
    · replace hw := hw.1 c4
      refine V.drop (lo' := [(13, o), (1, 0), (1, 0), (0, a3), (0, l4), (1, 0), (1, 0)]) ⟨Or.inr rfl, Or.inl rfl, Or.inl rfl, Or.inr rfl, Or.inr rfl, Or.inl rfl, Or.inr rfl, trivial⟩ ?_
      exact hK71 _ _ hw
    · replace hw := hw.2 c4
      refine V.bipush hc dX3_weigh_23 (by decide) ?_
      refine V.iload hc dX3_weigh_25 rfl ?_
      refine V.imul hc dX3_weigh_27 ?_
      refine V.aload_n (t := 3) hc dX3_weigh_28 rfl rfl ?_
      refine V.iload hc dX3_weigh_29 rfl ?_
      refine V.callVI hc (qX3_sumAt G l _ _ _ _ hw) mo_X3_sumAt ml_X3_32 (by rfl) rfl rfl (as := [(0, l5)]) rfl rfl rfl rfl rfl ⟨Nat.zero_le _, Nat.zero_le _⟩ dX3_weigh_31 (fun x6 h5 hw => ?_)
      refine V.isub hc dX3_weigh_34 ?_
      refine V.iload hc dX3_weigh_35 rfl ?_
      refine V.iload_n hc dX3_weigh_37 rfl rfl ?_
      refine V.iload_n hc dX3_weigh_38 rfl rfl ?_
      refine V.iload_n hc dX3_weigh_39 rfl rfl ?_
      refine V.callSI hc (qX3_piecesAt G l _ _ _ _ _ _ hw) mo_X3_piecesAt ml_X3_36 (as := [(0, l5), (0, a1), (0, a2), (0, a3)]) rfl rfl rfl rfl rfl ⟨Nat.zero_le _, Nat.zero_le _⟩ dX3_weigh_40 (fun x8 h7 hw => ?_)
      refine V.isub hc dX3_weigh_43 ?_
      refine V.istore hc dX3_weigh_44 rfl (lo' := [(13, o), (0, a1), (0, a2), (0, a3), (0, ((100 * l5) - x6) - x8), (0, l5), (1, 0)]) rfl ?_
      refine V.iload hc dX3_weigh_46 rfl ?_
      obtain ⟨g9, hw⟩ := hw
      refine V.if_ge hc (tgt := 65) dX3_weigh_48 (by decide) g9 (fun c10 => ?_) (fun c10 => ?_)
      · replace hw := hw.1 c10
        refine V.iinc hc dX3_weigh_65 rfl rfl (lo' := [(13, o), (0, a1), (0, a2), (0, a3), (0, ((100 * l5) - x6) - x8), (0, l5 + 1), (1, 0)]) rfl ?_
        refine V.goto hc (tgt := 16) dX3_weigh_68 (by decide) ?_
        exact ih _ _ _ hw
      · replace hw := hw.2 c10
        refine V.drop (lo' := [(13, o), (1, 0), (1, 0), (1, 0), (0, ((100 * l5) - x6) - x8), (0, l5), (1, 0)]) ⟨Or.inr rfl, Or.inl rfl, Or.inl rfl, Or.inl rfl, Or.inr rfl, Or.inr rfl, Or.inr rfl, trivial⟩ ?_
        exact hK51 _ _ _ hw
theorem qX3_weigh (G : GG) (l : Launch) (o : Int) (a1 : Int) (a2 : Int) (a3 : Int) (h : HP) (P : HP → Prop) (hw : wX3_weigh o a1 a2 a3 h P) : CnV l G yX3_weigh cX3_weigh 7 10 [(13, o), (0, a1), (0, a2), (0, a3)] h P := by
  refine CnV.of (lo := [(13, o), (0, a1), (0, a2), (0, a3), (1, 0), (1, 0), (1, 0)]) (by decide) rfl rfl rfl ?_
  intro p e s m args below meth c hc hr
  have hc : VC G p (rmD 10 0) s m args meth c RX3 cX3_weigh 7 10 := hc
  refine V.aload_n (t := 3) hc dX3_weigh_0 rfl rfl ?_
  refine V.iconst hc dX3_weigh_1 ?_
  refine V.pI hc pI_X3_9 rfl dX3_weigh_2 (fun h1 e => ?_)
  replace hw := hw h1 e
  clear e
  refine V.aload_n (t := 3) hc dX3_weigh_5 rfl rfl ?_
  refine V.iconst hc dX3_weigh_6 ?_
  refine V.pI hc pI_X3_15 rfl dX3_weigh_7 (fun h2 e => ?_)
  replace hw := hw h2 e
  clear e
  refine V.iconst hc dX3_weigh_10 ?_
  refine V.istore hc dX3_weigh_11 rfl (lo' := [(13, o), (0, a1), (0, a2), (0, a3), (0, 0), (1, 0), (1, 0)]) rfl ?_
  refine V.iconst hc dX3_weigh_13 ?_
  refine V.istore hc dX3_weigh_14 rfl (lo' := [(13, o), (0, a1), (0, a2), (0, a3), (0, 0), (0, 0), (1, 0)]) rfl ?_
  obtain ⟨f11, hw⟩ := hw
  refine tX3_weigh_16 hc hr ?_ ?_ f11 _ _ _ hw
  · intro l12 h13 hw
    refine V.aload_n (t := 3) hc dX3_weigh_71 rfl rfl ?_
    refine V.callVI hc (qX3_sumOfSecond G l _ _ _ hw) mo_X3_sumOfSecond ml_X3_40 (by rfl) rfl rfl (as := []) rfl rfl rfl rfl rfl ⟨Nat.zero_le _, Nat.zero_le _⟩ dX3_weigh_72 (fun x15 h14 hw => ?_)
    refine V.iload_n hc dX3_weigh_75 rfl rfl ?_
    refine V.iadd hc dX3_weigh_76 ?_
    refine V.bipush hc dX3_weigh_77 (by decide) ?_
    refine V.isub hc dX3_weigh_79 ?_
    refine V.istore hc dX3_weigh_80 rfl (lo' := [(13, o), (1, 0), (1, 0), (0, a3), (0, l12), (0, (x15 + a3) - 100), (1, 0)]) rfl ?_
    refine V.iload hc dX3_weigh_82 rfl ?_
    obtain ⟨g16, hw⟩ := hw
    refine V.if_le hc (tgt := 117) dX3_weigh_84 (by decide) g16 (fun c17 => ?_) (fun c17 => ?_)
    · replace hw := hw.1 c17
      exact V.vret hc hr dX3_weigh_117 hw
    · replace hw := hw.2 c17
      refine V.iload hc dX3_weigh_87 rfl ?_
      refine V.iload hc dX3_weigh_89 rfl ?_
      obtain ⟨g18, hw⟩ := hw
      obtain ⟨g19, hw⟩ := hw
      refine V.idiv hc g18 g19 dX3_weigh_91 ?_
      refine V.iconst hc dX3_weigh_92 ?_
      refine V.iadd hc dX3_weigh_93 ?_
      refine V.istore hc dX3_weigh_94 rfl (lo' := [(13, o), (1, 0), (1, 0), (0, a3), (0, l12), (0, (x15 + a3) - 100), (0, (l12 / ((x15 + a3) - 100)) + 1)]) rfl ?_
      refine V.aload_n (t := 3) hc dX3_weigh_96 rfl rfl ?_
      refine V.bipush hc dX3_weigh_97 (by decide) ?_
      refine V.iload hc dX3_weigh_99 rfl ?_
      refine V.iadd hc dX3_weigh_101 ?_
      refine V.pI hc pI_X3_9 rfl dX3_weigh_102 (fun h20 e => ?_)
      replace hw := hw h20 e
      clear e
      refine V.aload_n (t := 3) hc dX3_weigh_105 rfl rfl ?_
      refine V.iload hc dX3_weigh_106 rfl ?_
      refine V.iload hc dX3_weigh_108 rfl ?_
      refine V.imul hc dX3_weigh_110 ?_
      refine V.iload hc dX3_weigh_111 rfl ?_
      refine V.isub hc dX3_weigh_113 ?_
      refine V.pI hc pI_X3_15 rfl dX3_weigh_114 (fun h21 e => ?_)
      replace hw := hw h21 e
      clear e
      exact V.vret hc hr dX3_weigh_117 hw
  · intro l22 l23 h24 hw
    refine V.aload_n (t := 3) hc dX3_weigh_51 rfl rfl ?_
    refine V.iload hc dX3_weigh_52 rfl ?_
    refine V.pI hc pI_X3_9 rfl dX3_weigh_54 (fun h25 e => ?_)
    replace hw := hw h25 e
    clear e
    refine V.aload_n (t := 3) hc dX3_weigh_57 rfl rfl ?_
    refine V.iload hc dX3_weigh_58 rfl ?_
    refine V.ineg hc dX3_weigh_60 ?_
    refine V.pI hc pI_X3_15 rfl dX3_weigh_61 (fun h26 e => ?_)
    replace hw := hw h26 e
    clear e
    exact V.vret hc hr dX3_weigh_64 hw
theorem qX3_answer (G : GG) (l : Launch) (o : Int) (a1 : Int) (h : HP) (P : Int → HP → Prop) (hw : wX3_answer o a1 h P) : CnI l G yX3_answer cX3_answer 2 (some .int) 11 [(13, o), (0, a1)] h P := by
  refine CnI.of (lo := [(13, o), (0, a1)]) (by decide) rfl rfl rfl ?_
  intro p e s m args below meth c hc hr
  have hc : VC G p (rmD 11 0) s m args meth c RX3 cX3_answer 2 11 := hc
  refine V.aload_n (t := 3) hc dX3_answer_0 rfl rfl ?_
  refine V.iconst hc dX3_answer_1 ?_
  refine V.iconst hc dX3_answer_2 ?_
  refine V.iconst hc dX3_answer_3 ?_
  refine V.callVV hc (qX3_weigh G l _ _ _ _ _ _ hw) mo_X3_weigh ml_X3_26 (by rfl) rfl rfl (as := [(0, 0), (0, 0), (0, 0)]) rfl rfl rfl rfl rfl ⟨Nat.zero_le _, Nat.zero_le _⟩ dX3_answer_4 (fun h1 hw => ?_)
  refine V.iload_n hc dX3_answer_7 rfl rfl ?_
  obtain ⟨g2, hw⟩ := hw
  refine V.if_ne hc (tgt := 25) dX3_answer_8 (by decide) g2 (fun c3 => ?_) (fun c3 => ?_)
  · replace hw := hw.1 c3
    refine V.iload_n hc dX3_answer_25 rfl rfl ?_
    refine V.iconst hc dX3_answer_26 ?_
    obtain ⟨q6, hw⟩ := hw
    have kJ7 : ∀ t5 : Int, ((¬ a1 = 1 → t5 = h1 3 o 3) ∧ (a1 = 1 → t5 = h1 3 o 2)) → V G p l e (rmD 11 0) s m args below meth c (MQ below (QI G P) args s 0 0 (va_Aof G)) 2 41 [(1, 0), (1, 0)] [(0, t5)] h1 0 := by
      intro t5 he
      replace hw := hw t5 he
      clear he
      exact V.iret hc hr dX3_answer_41 hw
    have g4 := q6
    refine V.icmp_ne hc (tgt := 37) dX3_answer_27 (by decide) g4 (by omega) (fun c8 => ?_) (fun c8 => ?_)
    · refine V.aload_n (t := 3) hc dX3_answer_37 rfl rfl ?_
      refine V.gI hc gI_X3_15 rfl dX3_answer_38 ?_
      refine V.drop (lo' := [(1, 0), (1, 0)]) ⟨Or.inl rfl, Or.inl rfl, trivial⟩ ?_
      exact kJ7 _ ⟨fun _ => rfl, (fun q => absurd q c8)⟩
    · refine V.aload_n (t := 3) hc dX3_answer_30 rfl rfl ?_
      refine V.gI hc gI_X3_9 rfl dX3_answer_31 ?_
      refine V.goto hc (tgt := 41) dX3_answer_34 (by decide) ?_
      refine V.drop (lo' := [(1, 0), (1, 0)]) ⟨Or.inl rfl, Or.inl rfl, trivial⟩ ?_
      exact kJ7 _ ⟨(fun q => absurd c8 q), fun _ => rfl⟩
  · replace hw := hw.2 c3
    refine V.aload_n (t := 3) hc dX3_answer_11 rfl rfl ?_
    refine V.gI hc gI_X3_9 rfl dX3_answer_12 ?_
    refine V.iconst hc dX3_answer_15 ?_
    obtain ⟨q11, hw⟩ := hw
    have kJ12 : ∀ t10 : Int, ((¬ h1 3 o 2 = (-1) → t10 = 0) ∧ (h1 3 o 2 = (-1) → t10 = 1)) → V G p l e (rmD 11 0) s m args below meth c (MQ below (QI G P) args s 0 0 (va_Aof G)) 2 24 [(1, 0), (1, 0)] [(0, t10)] h1 0 := by
      intro t10 he
      replace hw := hw t10 he
      clear he
      exact V.iret hc hr dX3_answer_24 hw
    have g9 := q11
    refine V.icmp_ne hc (tgt := 23) dX3_answer_16 (by decide) g9 (by omega) (fun c13 => ?_) (fun c13 => ?_)
    · refine V.iconst hc dX3_answer_23 ?_
      refine V.drop (lo' := [(1, 0), (1, 0)]) ⟨Or.inl rfl, Or.inl rfl, trivial⟩ ?_
      exact kJ12 _ ⟨fun _ => rfl, (fun q => absurd q c13)⟩
    · refine V.iconst hc dX3_answer_19 ?_
      refine V.goto hc (tgt := 24) dX3_answer_20 (by decide) ?_
      refine V.drop (lo' := [(1, 0), (1, 0)]) ⟨Or.inl rfl, Or.inl rfl, trivial⟩ ?_
      exact kJ12 _ ⟨(fun q => absurd c13 q), fun _ => rfl⟩
theorem tX3_greatestMore_3 {G : GG} {p : Program} {l : Launch} {e : Jvm.Env} {s : State} {m : MethodId} {args : Array Value} {below : List Frame} {meth : Method} {c : Code} {P : Int → HP → Prop} (hc : VC G p (rmD 11 0) s m args meth c RX3 cX3_greatestMore 4 11) (hr : meth.sig.returnType = some .int) {o : Int} {a1 : Int} {a2 : Int} {K30 : HP → Prop} {K22 : Int → HP → Prop} (hK30 : ∀  (h : HP), K30  h → V G p l e (rmD 11 0) s m args below meth c (MQ below (QI G P) args s 0 0 (va_Aof G)) 4 30 [(1, 0), (1, 0), (1, 0), (1, 0)] [] h 0) (hK22 : ∀ (x3 : Int) (h : HP), K22 x3 h → V G p l e (rmD 11 0) s m args below meth c (MQ below (QI G P) args s 0 0 (va_Aof G)) 4 22 [(1, 0), (1, 0), (1, 0), (0, x3)] [] h 0) : ∀ (f : Nat) (l3 : Int) (h : HP), wX3_greatestMore_3 o a1 a2 K30 K22 f l3 h → V G p l e (rmD 11 0) s m args below meth c (MQ below (QI G P) args s 0 0 (va_Aof G)) 4 3 [(13, o), (0, a1), (0, a2), (0, l3)] [] h 0 := by
  intro f
  induction f with
  | zero =>
    intro l3 h hw
    exact hw.elim
  | succ f ih =>
    intro l3 h hw
    refine V.iload_n hc dX3_greatestMore_3 rfl rfl ?_
    obtain ⟨g1, hw⟩ := hw
    refine V.if_lt hc (tgt := 30) dX3_greatestMore_4 (by decide) g1 (fun c2 => ?_) (fun c2 => ?_)
    · replace hw := hw.1 c2
      refine V.drop (lo' := [(1, 0), (1, 0), (1, 0), (1, 0)]) ⟨Or.inl rfl, Or.inl rfl, Or.inl rfl, Or.inl rfl, trivial⟩ ?_
      exact hK30 _ hw
    · replace hw := hw.2 c2
      refine V.aload_n (t := 3) hc dX3_greatestMore_7 rfl rfl ?_
      refine V.iload_n hc dX3_greatestMore_8 rfl rfl ?_
      refine V.iload_n hc dX3_greatestMore_9 rfl rfl ?_
      refine V.iload_n hc dX3_greatestMore_10 rfl rfl ?_
      refine V.callVV hc (qX3_weigh G l _ _ _ _ _ _ hw) mo_X3_weigh ml_X3_26 (by rfl) rfl rfl (as := [(0, l3), (0, a1), (0, a2)]) rfl rfl rfl rfl rfl ⟨Nat.zero_le _, Nat.zero_le _⟩ dX3_greatestMore_11 (fun h3 hw => ?_)
      refine V.aload_n (t := 3) hc dX3_greatestMore_14 rfl rfl ?_
      refine V.gI hc gI_X3_9 rfl dX3_greatestMore_15 ?_
      refine V.iconst hc dX3_greatestMore_18 ?_
      obtain ⟨g4, hw⟩ := hw
      refine V.icmp_ne hc (tgt := 24) dX3_greatestMore_19 (by decide) g4 (by omega) (fun c5 => ?_) (fun c5 => ?_)
      · replace hw := hw.1 c5
        refine V.iinc hc dX3_greatestMore_24 rfl rfl (lo' := [(13, o), (0, a1), (0, a2), (0, l3 + (-1))]) rfl ?_
        refine V.goto hc (tgt := 3) dX3_greatestMore_27 (by decide) ?_
        exact ih _ _ hw
      · replace hw := hw.2 c5
        refine V.drop (lo' := [(1, 0), (1, 0), (1, 0), (0, l3)]) ⟨Or.inl rfl, Or.inl rfl, Or.inl rfl, Or.inr rfl, trivial⟩ ?_
        exact hK22 _ _ hw
theorem qX3_greatestMore (G : GG) (l : Launch) (o : Int) (a1 : Int) (a2 : Int) (h : HP) (P : Int → HP → Prop) (hw : wX3_greatestMore o a1 a2 h P) : CnI l G yX3_greatestMore cX3_greatestMore 4 (some .int) 11 [(13, o), (0, a1), (0, a2)] h P := by
  refine CnI.of (lo := [(13, o), (0, a1), (0, a2), (1, 0)]) (by decide) rfl rfl rfl ?_
  intro p e s m args below meth c hc hr
  have hc : VC G p (rmD 11 0) s m args meth c RX3 cX3_greatestMore 4 11 := hc
  refine V.bipush hc dX3_greatestMore_0 (by decide) ?_
  refine V.istore_n hc dX3_greatestMore_2 rfl rfl (lo' := [(13, o), (0, a1), (0, a2), (0, 100)]) rfl ?_
  obtain ⟨f6, hw⟩ := hw
  refine tX3_greatestMore_3 hc hr ?_ ?_ f6 _ _ hw
  · intro h7 hw
    refine V.iconst hc dX3_greatestMore_30 ?_
    exact V.iret hc hr dX3_greatestMore_31 hw
  · intro l8 h9 hw
    refine V.iload_n hc dX3_greatestMore_22 rfl rfl ?_
    exact V.iret hc hr dX3_greatestMore_23 hw
theorem tX4_agrees_2 {G : GG} {p : Program} {l : Launch} {e : Jvm.Env} {s : State} {m : MethodId} {args : Array Value} {below : List Frame} {meth : Method} {c : Code} {P : Int → HP → Prop} (hc : VC G p (rmD 13 0) s m args meth c RX4 cX4_agrees 3 13) (hr : meth.sig.returnType = some .boolean) {o : Int} {K94 : HP → Prop} {K86 : HP → Prop} (hK94 : ∀  (h : HP), K94  h → V G p l e (rmD 13 0) s m args below meth c (MQ below (QI G P) args s 0 0 (va_Aof G)) 3 94 [(1, 0), (1, 0), (1, 0)] [] h 0) (hK86 : ∀  (h : HP), K86  h → V G p l e (rmD 13 0) s m args below meth c (MQ below (QI G P) args s 0 0 (va_Aof G)) 3 86 [(1, 0), (1, 0), (1, 0)] [] h 0) : ∀ (f : Nat) (l1 : Int) (h : HP), wX4_agrees_2 o K94 K86 f l1 h → V G p l e (rmD 13 0) s m args below meth c (MQ below (QI G P) args s 0 0 (va_Aof G)) 3 2 [(14, o), (0, l1), (1, 0)] [] h 0 := by
  intro f
  induction f with
  | zero =>
    intro l1 h hw
    exact hw.elim
  | succ f ih =>
    intro l1 h hw
    refine V.iload_n hc dX4_agrees_2 rfl rfl ?_
    refine V.aload_n (t := 4) hc dX4_agrees_3 rfl rfl ?_
    refine V.gR hc gR_X4_36 (i' := 5) rfl dX4_agrees_4 ?_
    refine V.gI hc gI_X4_78 rfl dX4_agrees_7 ?_
    obtain ⟨g1, hw⟩ := hw
    obtain ⟨g2, hw⟩ := hw
    refine V.icmp_ge hc (tgt := 94) dX4_agrees_10 (by decide) g1 g2 (fun c3 => ?_) (fun c3 => ?_)
    · replace hw := hw.1 c3
      refine V.drop (lo' := [(1, 0), (1, 0), (1, 0)]) ⟨Or.inl rfl, Or.inl rfl, Or.inr rfl, trivial⟩ ?_
      exact hK94 _ hw
    · replace hw := hw.2 c3
      refine V.aload_n (t := 4) hc dX4_agrees_13 rfl rfl ?_
      refine V.gR hc gR_X4_33 (i' := 12) rfl dX4_agrees_14 ?_
      refine V.aload_n (t := 4) hc dX4_agrees_17 rfl rfl ?_
      refine V.gR hc gR_X4_29 (i' := 10) rfl dX4_agrees_18 ?_
      refine V.gI hc gI_X4_81 rfl dX4_agrees_21 ?_
      refine V.aload_n (t := 4) hc dX4_agrees_24 rfl rfl ?_
      refine V.gR hc gR_X4_36 (i' := 5) rfl dX4_agrees_25 ?_
      refine V.gR hc gR_X4_84 (i' := 5) rfl dX4_agrees_28 ?_
      refine V.iload_n hc dX4_agrees_31 rfl rfl ?_
      obtain ⟨g4, hw⟩ := hw
      refine V.ald hc ak_35 g4 dX4_agrees_32 ?_
      refine V.iadd hc dX4_agrees_33 ?_
      refine V.aload_n (t := 4) hc dX4_agrees_34 rfl rfl ?_
      refine V.gR hc gR_X4_33 (i' := 12) rfl dX4_agrees_35 ?_
      refine V.gI hc gI_X4_81 rfl dX4_agrees_38 ?_
      refine V.isub hc dX4_agrees_41 ?_
      refine V.callVV hc (qX6_pass G l _ _ _ _ hw) mo_X6_pass ml_X4_71 (by rfl) rfl rfl (as := [(0, ((h 6 10 1) + (h 35 5 l1)) - (h 6 12 1))]) rfl rfl rfl rfl rfl ⟨Nat.zero_le _, Nat.zero_le _⟩ dX4_agrees_42 (fun h5 hw => ?_)
      refine V.aload_n (t := 4) hc dX4_agrees_45 rfl rfl ?_
      refine V.gR hc gR_X4_36 (i' := 5) rfl dX4_agrees_46 ?_
      refine V.gR hc gR_X4_87 (i' := 5) rfl dX4_agrees_49 ?_
      refine V.iload_n hc dX4_agrees_52 rfl rfl ?_
      obtain ⟨g6, hw⟩ := hw
      refine V.ald hc ak_34 g6 dX4_agrees_53 ?_
      refine V.istore_n hc dX4_agrees_54 rfl rfl (lo' := [(14, o), (0, l1), (0, h5 34 5 l1)]) rfl ?_
      refine V.aload_n (t := 4) hc dX4_agrees_55 rfl rfl ?_
      refine V.gR hc gR_X4_33 (i' := 12) rfl dX4_agrees_56 ?_
      refine V.gR hc gR_X4_90 (i' := 12) rfl dX4_agrees_59 ?_
      refine V.iload_n hc dX4_agrees_62 rfl rfl ?_
      obtain ⟨g7, hw⟩ := hw
      refine V.ald hc ak_24 g7 dX4_agrees_63 ?_
      refine V.aload_n (t := 4) hc dX4_agrees_64 rfl rfl ?_
      refine V.gR hc gR_X4_29 (i' := 10) rfl dX4_agrees_65 ?_
      refine V.gR hc gR_X4_90 (i' := 10) rfl dX4_agrees_68 ?_
      refine V.iload_n hc dX4_agrees_71 rfl rfl ?_
      obtain ⟨g8, hw⟩ := hw
      refine V.ald hc ak_24 g8 dX4_agrees_72 ?_
      refine V.isub hc dX4_agrees_73 ?_
      refine V.aload_n (t := 4) hc dX4_agrees_74 rfl rfl ?_
      refine V.gR hc gR_X4_36 (i' := 5) rfl dX4_agrees_75 ?_
      refine V.gR hc gR_X4_93 (i' := 5) rfl dX4_agrees_78 ?_
      refine V.iload_n hc dX4_agrees_81 rfl rfl ?_
      obtain ⟨g9, hw⟩ := hw
      refine V.ald hc ak_36 g9 dX4_agrees_82 ?_
      obtain ⟨g10, hw⟩ := hw
      obtain ⟨g11, hw⟩ := hw
      refine V.icmp_eq hc (tgt := 88) dX4_agrees_83 (by decide) g10 g11 (fun c12 => ?_) (fun c12 => ?_)
      · replace hw := hw.1 c12
        refine V.iinc hc dX4_agrees_88 rfl rfl (lo' := [(14, o), (0, l1 + 1), (0, h5 34 5 l1)]) rfl ?_
        refine V.goto hc (tgt := 2) dX4_agrees_91 (by decide) ?_
        refine V.drop (lo' := [(14, o), (0, l1 + 1), (1, 0)]) ⟨Or.inr rfl, Or.inr rfl, Or.inl rfl, trivial⟩ ?_
        exact ih _ _ hw
      · replace hw := hw.2 c12
        refine V.drop (lo' := [(1, 0), (1, 0), (1, 0)]) ⟨Or.inl rfl, Or.inl rfl, Or.inl rfl, trivial⟩ ?_
        exact hK86 _ hw
theorem qX4_agrees (G : GG) (l : Launch) (o : Int) (h : HP) (P : Int → HP → Prop) (hw : wX4_agrees o h P) : CnI l G yX4_agrees cX4_agrees 3 (some .boolean) 13 [(14, o)] h P := by
  refine CnI.of (lo := [(14, o), (1, 0), (1, 0)]) (by decide) rfl rfl rfl ?_
  intro p e s m args below meth c hc hr
  have hc : VC G p (rmD 13 0) s m args meth c RX4 cX4_agrees 3 13 := hc
  refine V.iconst hc dX4_agrees_0 ?_
  refine V.istore_n hc dX4_agrees_1 rfl rfl (lo' := [(14, o), (0, 0), (1, 0)]) rfl ?_
  obtain ⟨f13, hw⟩ := hw
  refine tX4_agrees_2 hc hr ?_ ?_ f13 _ _ hw
  · intro h14 hw
    refine V.iconst hc dX4_agrees_94 ?_
    exact V.zret hc hr dX4_agrees_95 (by omega) hw
  · intro h15 hw
    refine V.iconst hc dX4_agrees_86 ?_
    exact V.zret hc hr dX4_agrees_87 (by omega) hw
theorem qX4_holdsWithout (G : GG) (l : Launch) (o : Int) (h : HP) (P : Int → HP → Prop) (hw : wX4_holdsWithout o h P) : CnI l G yX4_holdsWithout cX4_holdsWithout 1 (some .boolean) 14 [(14, o)] h P := by
  refine CnI.of (lo := [(14, o)]) (by decide) rfl rfl rfl ?_
  intro p e s m args below meth c hc hr
  have hc : VC G p (rmD 14 0) s m args meth c RX4 cX4_holdsWithout 1 14 := hc
  refine V.aload_n (t := 4) hc dX4_holdsWithout_0 rfl rfl ?_
  refine V.gR hc gR_X4_33 (i' := 12) rfl dX4_holdsWithout_1 ?_
  refine V.aload_n (t := 4) hc dX4_holdsWithout_4 rfl rfl ?_
  refine V.gR hc gR_X4_29 (i' := 10) rfl dX4_holdsWithout_5 ?_
  refine V.callVV hc (qX6_copyFrom G l _ _ _ _ hw) mo_X6_copyFrom ml_X4_40 (by rfl) rfl rfl (as := [(16, 10)]) rfl rfl rfl rfl rfl ⟨Nat.zero_le _, Nat.zero_le _⟩ dX4_holdsWithout_8 (fun h1 hw => ?_)
  refine V.aload_n (t := 4) hc dX4_holdsWithout_11 rfl rfl ?_
  refine V.callVI hc (qX4_agrees G l _ _ _ hw) mo_X4_agrees ml_X4_46 (by rfl) rfl rfl (as := []) rfl rfl rfl rfl rfl ⟨Nat.zero_le _, Nat.zero_le _⟩ dX4_holdsWithout_12 (fun x3 h2 hw => ?_)
  obtain ⟨g4, hw⟩ := hw
  exact V.zret hc hr dX4_holdsWithout_15 g4 hw
theorem tJ7_fill_53178_5 {G : GG} {p : Program} {l : Launch} {e : Jvm.Env} {s : State} {m : MethodId} {args : Array Value} {below : List Frame} {meth : Method} {c : Code} {P : HP → Prop} (hc : VC G p (rmD 8 0) s m args meth c RJ7 cJ7_fill_53178 4 8) (hr : meth.sig.returnType = none) {k0 : Nat} {i0 : Int} {a1 : Int} {k0_ : Nat} {i0_ : Int} {l3 : Int} {K20 : HP → Prop} (hK20 : ∀  (h : HP), K20  h → V G p l e (rmD 8 0) s m args below meth c (MQ below (QV G P) args s 0 0 (va_Aof G)) 4 20 [(1, 0), (1, 0), (1, 0), (1, 0)] [] h 0) : ∀ (f : Nat) (l2 : Int) (h : HP), wJ7_fill_53178_5 k0 i0 a1 k0_ i0_ l3 K20 f l2 h → V G p l e (rmD 8 0) s m args below meth c (MQ below (QV G P) args s 0 0 (va_Aof G)) 4 5 [(k0_ + 10, i0_), (0, a1), (0, l2), (0, l3)] [] h 0 := by
  intro f
  induction f with
  | zero =>
    intro l2 h hw
    exact hw.elim
  | succ f ih =>
    intro l2 h hw
    refine V.iload_n hc dJ7_fill_53178_5 rfl rfl ?_
    refine V.iload_n hc dJ7_fill_53178_6 rfl rfl ?_
    obtain ⟨g2, hw⟩ := hw
    obtain ⟨g3, hw⟩ := hw
    refine V.icmp_ge hc (tgt := 20) dJ7_fill_53178_7 (by decide) g2 g3 (fun c4 => ?_) (fun c4 => ?_)
    · replace hw := hw.1 c4
      refine V.drop (lo' := [(1, 0), (1, 0), (1, 0), (1, 0)]) ⟨Or.inl rfl, Or.inl rfl, Or.inl rfl, Or.inl rfl, trivial⟩ ?_
      exact hK20 _ hw
    · replace hw := hw.2 c4
      refine V.aload_n (t := k0_) hc dJ7_fill_53178_10 rfl rfl ?_
      refine V.iload_n hc dJ7_fill_53178_11 rfl rfl ?_
      refine V.iload_n hc dJ7_fill_53178_12 rfl rfl ?_
      obtain ⟨g6, hw⟩ := hw
      obtain ⟨g7, hw⟩ := hw
      refine V.ast hc ⟨g6, rfl⟩ g7 dJ7_fill_53178_13 (fun h5 e => ?_)
      replace hw := hw h5 e
      clear e
      refine V.iinc hc dJ7_fill_53178_14 rfl rfl (lo' := [(k0_ + 10, i0_), (0, a1), (0, l2 + 1), (0, l3)]) rfl ?_
      refine V.goto hc (tgt := 5) dJ7_fill_53178_17 (by decide) ?_
      exact ih _ _ hw
theorem qJ7_fill_53178 (G : GG) (l : Launch) (k0 : Nat) (i0 : Int) (a1 : Int) (h : HP) (P : HP → Prop) (hw : wJ7_fill_53178 k0 i0 a1 h P) : CnV l G yJ7_fill_53178 cJ7_fill_53178 4 8 [(k0 + 10, i0), (0, a1)] h P := by
  refine CnV.of (lo := [(k0 + 10, i0), (0, a1), (1, 0), (1, 0)]) (by decide) rfl rfl rfl ?_
  intro p e s m args below meth c hc hr
  have hc : VC G p (rmD 8 0) s m args meth c RJ7 cJ7_fill_53178 4 8 := hc
  refine V.iconst hc dJ7_fill_53178_0 ?_
  refine V.istore_n hc dJ7_fill_53178_1 rfl rfl (lo' := [(k0 + 10, i0), (0, a1), (0, 0), (1, 0)]) rfl ?_
  refine V.aload_n (t := k0) hc dJ7_fill_53178_2 rfl rfl ?_
  obtain ⟨g1, hw⟩ := hw
  refine V.aln hc ⟨g1, rfl⟩ dJ7_fill_53178_3 ?_
  refine V.istore_n hc dJ7_fill_53178_4 rfl rfl (lo' := [(k0 + 10, i0), (0, a1), (0, 0), (0, ((kLen k0 : Nat) : Int))]) rfl ?_
  obtain ⟨f8, hw⟩ := hw
  refine tJ7_fill_53178_5 hc hr ?_ f8 _ _ hw
  · intro h9 hw
    exact V.vret hc hr dJ7_fill_53178_20 hw
theorem tX4_seeSent_78 {G : GG} {p : Program} {l : Launch} {e : Jvm.Env} {s : State} {m : MethodId} {args : Array Value} {below : List Frame} {meth : Method} {c : Code} {P : HP → Prop} (hc : VC G p (rmD 8 0) s m args meth c RX4 cX4_seeSent 4 8) (hr : meth.sig.returnType = none) {o : Int} {l1 : Int} {h : HP} {K2 : Int → HP → Prop} (hK2 : ∀ (x1 : Int) (h : HP), K2 x1 h → V G p l e (rmD 8 0) s m args below meth c (MQ below (QV G P) args s 0 0 (va_Aof G)) 4 2 [(14, o), (0, x1), (1, 0), (1, 0)] [] h 0) (hw : wX4_seeSent_78 o l1 K2 h) : V G p l e (rmD 8 0) s m args below meth c (MQ below (QV G P) args s 0 0 (va_Aof G)) 4 78 [(14, o), (0, l1), (1, 0), (1, 0)] [] h 0 := by
  refine V.iinc hc dX4_seeSent_78 rfl rfl (lo' := [(14, o), (0, l1 + 1), (1, 0), (1, 0)]) rfl ?_
  refine V.goto hc (tgt := 2) dX4_seeSent_81 (by decide) ?_
  exact hK2 _ _ hw
theorem tX4_seeSent_2 {G : GG} {p : Program} {l : Launch} {e : Jvm.Env} {s : State} {m : MethodId} {args : Array Value} {below : List Frame} {meth : Method} {c : Code} {P : HP → Prop} (hc : VC G p (rmD 8 0) s m args meth c RX4 cX4_seeSent 4 8) (hr : meth.sig.returnType = none) {o : Int} {K84 : HP → Prop} (hK84 : ∀  (h : HP), K84  h → V G p l e (rmD 8 0) s m args below meth c (MQ below (QV G P) args s 0 0 (va_Aof G)) 4 84 [(1, 0), (1, 0), (1, 0), (1, 0)] [] h 0) : ∀ (f : Nat) (l1 : Int) (h : HP), wX4_seeSent_2 o K84 f l1 h → V G p l e (rmD 8 0) s m args below meth c (MQ below (QV G P) args s 0 0 (va_Aof G)) 4 2 [(14, o), (0, l1), (1, 0), (1, 0)] [] h 0 := by
  intro f
  induction f with
  | zero =>
    intro l1 h hw
    exact hw.elim
  | succ f ih =>
    intro l1 h hw
    refine V.iload_n hc dX4_seeSent_2 rfl rfl ?_
    refine V.aload_n (t := 4) hc dX4_seeSent_3 rfl rfl ?_
    refine V.gR hc gR_X4_25 (i' := 1) rfl dX4_seeSent_4 ?_
    refine V.gI hc gI_X4_96 rfl dX4_seeSent_7 ?_
    obtain ⟨g1, hw⟩ := hw
    obtain ⟨g2, hw⟩ := hw
    refine V.icmp_ge hc (tgt := 84) dX4_seeSent_10 (by decide) g1 g2 (fun c3 => ?_) (fun c3 => ?_)
    · replace hw := hw.1 c3
      refine V.drop (lo' := [(1, 0), (1, 0), (1, 0), (1, 0)]) ⟨Or.inl rfl, Or.inl rfl, Or.inr rfl, Or.inr rfl, trivial⟩ ?_
      exact hK84 _ hw
    · replace hw := hw.2 c3
      refine V.aload_n (t := 4) hc dX4_seeSent_13 rfl rfl ?_
      refine V.gR hc gR_X4_33 (i' := 12) rfl dX4_seeSent_14 ?_
      refine V.gR hc gR_X4_90 (i' := 12) rfl dX4_seeSent_17 ?_
      refine V.iload_n hc dX4_seeSent_20 rfl rfl ?_
      obtain ⟨g4, hw⟩ := hw
      refine V.ald hc ak_24 g4 dX4_seeSent_21 ?_
      refine V.aload_n (t := 4) hc dX4_seeSent_22 rfl rfl ?_
      refine V.gR hc gR_X4_29 (i' := 10) rfl dX4_seeSent_23 ?_
      refine V.gR hc gR_X4_90 (i' := 10) rfl dX4_seeSent_26 ?_
      refine V.iload_n hc dX4_seeSent_29 rfl rfl ?_
      obtain ⟨g5, hw⟩ := hw
      refine V.ald hc ak_24 g5 dX4_seeSent_30 ?_
      refine V.isub hc dX4_seeSent_31 ?_
      refine V.istore_n hc dX4_seeSent_32 rfl rfl (lo' := [(14, o), (0, l1), (0, (h 24 12 l1) - (h 24 10 l1)), (1, 0)]) rfl ?_
      refine V.iload_n hc dX4_seeSent_33 rfl rfl ?_
      refine V.sipush hc dX4_seeSent_34 (by decide) ?_
      refine V.imul hc dX4_seeSent_37 ?_
      refine V.iload_n hc dX4_seeSent_38 rfl rfl ?_
      refine V.iadd hc dX4_seeSent_39 ?_
      refine V.istore_n hc dX4_seeSent_40 rfl rfl (lo' := [(14, o), (0, l1), (0, (h 24 12 l1) - (h 24 10 l1)), (0, (l1 * 128) + ((h 24 12 l1) - (h 24 10 l1)))]) rfl ?_
      refine V.iload_n hc dX4_seeSent_41 rfl rfl ?_
      obtain ⟨g6, hw⟩ := hw
      refine V.if_lt hc (tgt := 78) dX4_seeSent_42 (by decide) g6 (fun c7 => ?_) (fun c7 => ?_)
      · replace hw := hw.1 c7
        refine V.drop (lo' := [(14, o), (0, l1), (1, 0), (1, 0)]) ⟨Or.inr rfl, Or.inr rfl, Or.inl rfl, Or.inl rfl, trivial⟩ ?_
        exact tX4_seeSent_78 hc hr (fun y1 hy hw => by exact ih _ _ hw) hw
      · replace hw := hw.2 c7
        refine V.iload_n hc dX4_seeSent_45 rfl rfl ?_
        refine V.sipush hc dX4_seeSent_46 (by decide) ?_
        obtain ⟨g8, hw⟩ := hw
        refine V.icmp_ge hc (tgt := 78) dX4_seeSent_49 (by decide) g8 (by omega) (fun c9 => ?_) (fun c9 => ?_)
        · replace hw := hw.1 c9
          refine V.drop (lo' := [(14, o), (0, l1), (1, 0), (1, 0)]) ⟨Or.inr rfl, Or.inr rfl, Or.inl rfl, Or.inl rfl, trivial⟩ ?_
          exact tX4_seeSent_78 hc hr (fun y1 hy hw => by exact ih _ _ hw) hw
        · replace hw := hw.2 c9
          refine V.aload_n (t := 4) hc dX4_seeSent_52 rfl rfl ?_
          refine V.gR hc gR_X4_18 (i' := o) rfl dX4_seeSent_53 ?_
          refine V.iload_n hc dX4_seeSent_56 rfl rfl ?_
          obtain ⟨g10, hw⟩ := hw
          refine V.ald hc ak_21 g10 dX4_seeSent_57 ?_
          obtain ⟨g11, hw⟩ := hw
          refine V.if_ne hc (tgt := 78) dX4_seeSent_58 (by decide) g11 (fun c12 => ?_) (fun c12 => ?_)
          · replace hw := hw.1 c12
            refine V.drop (lo' := [(14, o), (0, l1), (1, 0), (1, 0)]) ⟨Or.inr rfl, Or.inr rfl, Or.inl rfl, Or.inl rfl, trivial⟩ ?_
            exact tX4_seeSent_78 hc hr (fun y1 hy hw => by exact ih _ _ hw) hw
          · replace hw := hw.2 c12
            refine V.aload_n (t := 4) hc dX4_seeSent_61 rfl rfl ?_
            refine V.gR hc gR_X4_18 (i' := o) rfl dX4_seeSent_62 ?_
            refine V.iload_n hc dX4_seeSent_65 rfl rfl ?_
            refine V.iconst hc dX4_seeSent_66 ?_
            obtain ⟨g14, hw⟩ := hw
            refine V.ast hc ak_21 g14 dX4_seeSent_67 (fun h13 e => ?_)
            replace hw := hw h13 e
            clear e
            refine V.aload_n (t := 4) hc dX4_seeSent_68 rfl rfl ?_
            refine V.gR hc gR_X4_22 (i' := o) rfl dX4_seeSent_69 ?_
            refine V.iload_n hc dX4_seeSent_72 rfl rfl ?_
            refine V.dup2 hc dX4_seeSent_73 (by simp) (by simp) ?_
            obtain ⟨g15, hw⟩ := hw
            refine V.ald hc ak_22 g15 dX4_seeSent_74 ?_
            refine V.iconst hc dX4_seeSent_75 ?_
            refine V.iadd hc dX4_seeSent_76 ?_
            obtain ⟨g17, hw⟩ := hw
            refine V.ast hc ak_22 g17 dX4_seeSent_77 (fun h16 e => ?_)
            replace hw := hw h16 e
            clear e
            refine V.drop (lo' := [(14, o), (0, l1), (1, 0), (1, 0)]) ⟨Or.inr rfl, Or.inr rfl, Or.inl rfl, Or.inl rfl, trivial⟩ ?_
            exact tX4_seeSent_78 hc hr (fun y1 hy hw => by exact ih _ _ hw) hw
theorem qX4_seeSent (G : GG) (l : Launch) (o : Int) (h : HP) (P : HP → Prop) (hw : wX4_seeSent o h P) : CnV l G yX4_seeSent cX4_seeSent 4 8 [(14, o)] h P := by
  refine CnV.of (lo := [(14, o), (1, 0), (1, 0), (1, 0)]) (by decide) rfl rfl rfl ?_
  intro p e s m args below meth c hc hr
  have hc : VC G p (rmD 8 0) s m args meth c RX4 cX4_seeSent 4 8 := hc
  refine V.iconst hc dX4_seeSent_0 ?_
  refine V.istore_n hc dX4_seeSent_1 rfl rfl (lo' := [(14, o), (0, 0), (1, 0), (1, 0)]) rfl ?_
  obtain ⟨f18, hw⟩ := hw
  refine tX4_seeSent_2 hc hr ?_ f18 _ _ hw
  · intro h19 hw
    exact V.vret hc hr dX4_seeSent_84 hw
theorem qX4_take (G : GG) (l : Launch) (o : Int) (a1 : Int) (a2 : Int) (a3 : Int) (h : HP) (P : HP → Prop) (hw : wX4_take o a1 a2 a3 h P) : CnV l G yX4_take cX4_take 4 13 [(14, o), (0, a1), (0, a2), (0, a3)] h P := by
  refine CnV.of (lo := [(14, o), (0, a1), (0, a2), (0, a3)]) (by decide) rfl rfl rfl ?_
  intro p e s m args below meth c hc hr
  have hc : VC G p (rmD 13 0) s m args meth c RX4 cX4_take 4 13 := hc
  refine V.aload_n (t := 4) hc dX4_take_0 rfl rfl ?_
  refine V.aload_n (t := 4) hc dX4_take_1 rfl rfl ?_
  refine V.gI hc gI_X4_9 rfl dX4_take_2 ?_
  obtain ⟨q3, hw⟩ := hw
  have kJ13 : ∀ t2 : Int, ((¬ h 4 o 4 = 0 → t2 = h 4 o 5) ∧ (h 4 o 4 = 0 → t2 = (100 * a1) + a2)) → V G p l e (rmD 13 0) s m args below meth c (MQ below (QV G P) args s 0 0 (va_Aof G)) 4 21 [(14, o), (0, a1), (0, a2), (0, a3)] [(0, t2), (14, o)] h 0 := by
    intro t2 he
    replace hw := hw t2 he
    clear he
    refine V.pI hc pI_X4_15 rfl dX4_take_21 (fun h4 e => ?_)
    replace hw := hw h4 e
    clear e
    refine V.aload_n (t := 4) hc dX4_take_24 rfl rfl ?_
    refine V.dup hc dX4_take_25 (by simp) ?_
    refine V.gI hc gI_X4_9 rfl dX4_take_26 ?_
    refine V.iconst hc dX4_take_29 ?_
    refine V.iadd hc dX4_take_30 ?_
    refine V.pI hc pI_X4_9 rfl dX4_take_31 (fun h5 e => ?_)
    replace hw := hw h5 e
    clear e
    refine V.iload_n hc dX4_take_34 rfl rfl ?_
    obtain ⟨g6, hw⟩ := hw
    refine V.if_eq hc (tgt := 72) dX4_take_35 (by decide) g6 (fun c7 => ?_) (fun c7 => ?_)
    · replace hw := hw.1 c7
      exact V.vret hc hr dX4_take_72 hw
    · replace hw := hw.2 c7
      refine V.aload_n (t := 4) hc dX4_take_38 rfl rfl ?_
      refine V.gR hc gR_X4_33 (i' := 12) rfl dX4_take_39 ?_
      refine V.aload_n (t := 4) hc dX4_take_42 rfl rfl ?_
      refine V.gR hc gR_X4_29 (i' := 10) rfl dX4_take_43 ?_
      refine V.callVV hc (qX6_copyFrom G l _ _ _ _ hw) mo_X6_copyFrom ml_X4_40 (by rfl) rfl rfl (as := [(16, 10)]) rfl rfl rfl rfl rfl ⟨Nat.zero_le _, Nat.zero_le _⟩ dX4_take_46 (fun h8 hw => ?_)
      refine V.aload_n (t := 4) hc dX4_take_49 rfl rfl ?_
      refine V.gR hc gR_X4_33 (i' := 12) rfl dX4_take_50 ?_
      refine V.gR hc gR_X4_64 (i' := 12) rfl dX4_take_53 ?_
      refine V.iload_n hc dX4_take_56 rfl rfl ?_
      refine V.iload_n hc dX4_take_57 rfl rfl ?_
      obtain ⟨g10, hw⟩ := hw
      refine V.ast hc ak_32 g10 dX4_take_58 (fun h9 e => ?_)
      replace hw := hw h9 e
      clear e
      refine V.aload_n (t := 4) hc dX4_take_59 rfl rfl ?_
      refine V.gR hc gR_X4_33 (i' := 12) rfl dX4_take_60 ?_
      refine V.bipush hc dX4_take_63 (by decide) ?_
      refine V.callVV hc (qX6_pass G l _ _ _ _ hw) mo_X6_pass ml_X4_71 (by rfl) rfl rfl (as := [(0, 50)]) rfl rfl rfl rfl rfl ⟨Nat.zero_le _, Nat.zero_le _⟩ dX4_take_65 (fun h11 hw => ?_)
      refine V.aload_n (t := 4) hc dX4_take_68 rfl rfl ?_
      refine V.callVV hc (qX4_seeSent G l _ _ _ hw) mo_X4_seeSent ml_X4_75 (by rfl) rfl rfl (as := []) rfl rfl rfl rfl rfl ⟨Nat.zero_le _, Nat.zero_le _⟩ dX4_take_69 (fun h12 hw => ?_)
      exact V.vret hc hr dX4_take_72 hw
  have g1 := q3
  refine V.if_ne hc (tgt := 17) dX4_take_5 (by decide) g1 (fun c14 => ?_) (fun c14 => ?_)
  · refine V.aload_n (t := 4) hc dX4_take_17 rfl rfl ?_
    refine V.gI hc gI_X4_15 rfl dX4_take_18 ?_
    exact kJ13 _ ⟨fun _ => rfl, (fun q => absurd q c14)⟩
  · refine V.bipush hc dX4_take_8 (by decide) ?_
    refine V.iload_n hc dX4_take_10 rfl rfl ?_
    refine V.imul hc dX4_take_11 ?_
    refine V.iload_n hc dX4_take_12 rfl rfl ?_
    refine V.iadd hc dX4_take_13 ?_
    refine V.goto hc (tgt := 21) dX4_take_14 (by decide) ?_
    exact kJ13 _ ⟨(fun q => absurd c14 q), fun _ => rfl⟩
theorem tX4_tryAll_95 {G : GG} {p : Program} {l : Launch} {e : Jvm.Env} {s : State} {m : MethodId} {args : Array Value} {below : List Frame} {meth : Method} {c : Code} {P : HP → Prop} (hc : VC G p (rmD 14 0) s m args meth c RX4 cX4_tryAll 4 14) (hr : meth.sig.returnType = none) {o : Int} {a1 : Int} {l2 : Int} {l3 : Int} {h : HP} {K41 : Int → HP → Prop} (hK41 : ∀ (x3 : Int) (h : HP), K41 x3 h → V G p l e (rmD 14 0) s m args below meth c (MQ below (QV G P) args s 0 0 (va_Aof G)) 4 41 [(14, o), (0, a1), (0, l2), (0, x3)] [] h 0) (hw : wX4_tryAll_95 o a1 l2 l3 K41 h) : V G p l e (rmD 14 0) s m args below meth c (MQ below (QV G P) args s 0 0 (va_Aof G)) 4 95 [(14, o), (0, a1), (0, l2), (0, l3)] [] h 0 := by
  refine V.iinc hc dX4_tryAll_95 rfl rfl (lo' := [(14, o), (0, a1), (0, l2), (0, l3 + 1)]) rfl ?_
  refine V.goto hc (tgt := 41) dX4_tryAll_98 (by decide) ?_
  exact hK41 _ _ hw
theorem tX4_tryAll_41 {G : GG} {p : Program} {l : Launch} {e : Jvm.Env} {s : State} {m : MethodId} {args : Array Value} {below : List Frame} {meth : Method} {c : Code} {P : HP → Prop} (hc : VC G p (rmD 14 0) s m args meth c RX4 cX4_tryAll 4 14) (hr : meth.sig.returnType = none) {o : Int} {a1 : Int} {l2 : Int} {K101 : HP → Prop} (hK101 : ∀  (h : HP), K101  h → V G p l e (rmD 14 0) s m args below meth c (MQ below (QV G P) args s 0 0 (va_Aof G)) 4 101 [(14, o), (0, a1), (0, l2), (1, 0)] [] h 0) : ∀ (f : Nat) (l3 : Int) (h : HP), wX4_tryAll_41 o a1 l2 K101 f l3 h → V G p l e (rmD 14 0) s m args below meth c (MQ below (QV G P) args s 0 0 (va_Aof G)) 4 41 [(14, o), (0, a1), (0, l2), (0, l3)] [] h 0 := by
  intro f
  induction f with
  | zero =>
    intro l3 h hw
    exact hw.elim
  | succ f ih =>
    intro l3 h hw
    refine V.iload_n hc dX4_tryAll_41 rfl rfl ?_
    refine V.bipush hc dX4_tryAll_42 (by decide) ?_
    obtain ⟨g8, hw⟩ := hw
    refine V.icmp_gt hc (tgt := 101) dX4_tryAll_44 (by decide) g8 (by omega) (fun c9 => ?_) (fun c9 => ?_)
    · replace hw := hw.1 c9
      refine V.drop (lo' := [(14, o), (0, a1), (0, l2), (1, 0)]) ⟨Or.inr rfl, Or.inr rfl, Or.inr rfl, Or.inl rfl, trivial⟩ ?_
      exact hK101 _ hw
    · replace hw := hw.2 c9
      refine V.iload_n hc dX4_tryAll_47 rfl rfl ?_
      refine V.aload_n (t := 4) hc dX4_tryAll_48 rfl rfl ?_
      refine V.gR hc gR_X4_25 (i' := 1) rfl dX4_tryAll_49 ?_
      refine V.gR hc gR_X4_61 (i' := 1) rfl dX4_tryAll_52 ?_
      refine V.iload_n hc dX4_tryAll_55 rfl rfl ?_
      obtain ⟨g10, hw⟩ := hw
      refine V.ald hc ak_43 g10 dX4_tryAll_56 ?_
      obtain ⟨g11, hw⟩ := hw
      obtain ⟨g12, hw⟩ := hw
      refine V.icmp_eq hc (tgt := 95) dX4_tryAll_57 (by decide) g11 g12 (fun c13 => ?_) (fun c13 => ?_)
      · replace hw := hw.1 c13
        exact tX4_tryAll_95 hc hr (fun y3 hy hw => by exact ih _ _ hw) hw
      · replace hw := hw.2 c13
        refine V.aload_n (t := 4) hc dX4_tryAll_60 rfl rfl ?_
        refine V.gR hc gR_X4_33 (i' := 12) rfl dX4_tryAll_61 ?_
        refine V.aload_n (t := 4) hc dX4_tryAll_64 rfl rfl ?_
        refine V.gR hc gR_X4_29 (i' := 10) rfl dX4_tryAll_65 ?_
        refine V.callVV hc (qX6_copyFrom G l _ _ _ _ hw) mo_X6_copyFrom ml_X4_40 (by rfl) rfl rfl (as := [(16, 10)]) rfl rfl rfl rfl rfl ⟨Nat.zero_le _, Nat.zero_le _⟩ dX4_tryAll_68 (fun h14 hw => ?_)
        refine V.aload_n (t := 4) hc dX4_tryAll_71 rfl rfl ?_
        refine V.gR hc gR_X4_33 (i' := 12) rfl dX4_tryAll_72 ?_
        refine V.gR hc gR_X4_64 (i' := 12) rfl dX4_tryAll_75 ?_
        refine V.iload_n hc dX4_tryAll_78 rfl rfl ?_
        refine V.iload_n hc dX4_tryAll_79 rfl rfl ?_
        obtain ⟨g16, hw⟩ := hw
        refine V.ast hc ak_32 g16 dX4_tryAll_80 (fun h15 e => ?_)
        replace hw := hw h15 e
        clear e
        refine V.aload_n (t := 4) hc dX4_tryAll_81 rfl rfl ?_
        refine V.callVI hc (qX4_agrees G l _ _ _ hw) mo_X4_agrees ml_X4_46 (by rfl) rfl rfl (as := []) rfl rfl rfl rfl rfl ⟨Nat.zero_le _, Nat.zero_le _⟩ dX4_tryAll_82 (fun x18 h17 hw => ?_)
        obtain ⟨g19, hw⟩ := hw
        refine V.if_eq hc (tgt := 95) dX4_tryAll_85 (by decide) g19 (fun c20 => ?_) (fun c20 => ?_)
        · replace hw := hw.1 c20
          exact tX4_tryAll_95 hc hr (fun y3 hy hw => by exact ih _ _ hw) hw
        · replace hw := hw.2 c20
          refine V.aload_n (t := 4) hc dX4_tryAll_88 rfl rfl ?_
          refine V.iload_n hc dX4_tryAll_89 rfl rfl ?_
          refine V.iload_n hc dX4_tryAll_90 rfl rfl ?_
          refine V.iload_n hc dX4_tryAll_91 rfl rfl ?_
          refine V.callVV hc (qX4_take G l _ _ _ _ _ _ hw) mo_X4_take ml_X4_67 (by rfl) rfl rfl (as := [(0, l2), (0, l3), (0, a1)]) rfl rfl rfl rfl rfl ⟨Nat.zero_le _, Nat.zero_le _⟩ dX4_tryAll_92 (fun h21 hw => ?_)
          exact tX4_tryAll_95 hc hr (fun y3 hy hw => by exact ih _ _ hw) hw
theorem tX4_tryAll_28 {G : GG} {p : Program} {l : Launch} {e : Jvm.Env} {s : State} {m : MethodId} {args : Array Value} {below : List Frame} {meth : Method} {c : Code} {P : HP → Prop} (hc : VC G p (rmD 14 0) s m args meth c RX4 cX4_tryAll 4 14) (hr : meth.sig.returnType = none) {o : Int} {a1 : Int} {K107 : HP → Prop} (hK107 : ∀  (h : HP), K107  h → V G p l e (rmD 14 0) s m args below meth c (MQ below (QV G P) args s 0 0 (va_Aof G)) 4 107 [(1, 0), (1, 0), (1, 0), (1, 0)] [] h 0) : ∀ (f : Nat) (l2 : Int) (h : HP), wX4_tryAll_28 o a1 K107 f l2 h → V G p l e (rmD 14 0) s m args below meth c (MQ below (QV G P) args s 0 0 (va_Aof G)) 4 28 [(14, o), (0, a1), (0, l2), (1, 0)] [] h 0 := by
  intro f
  induction f with
  | zero =>
    intro l2 h hw
    exact hw.elim
  | succ f ih =>
    intro l2 h hw
    refine V.iload_n hc dX4_tryAll_28 rfl rfl ?_
    refine V.aload_n (t := 4) hc dX4_tryAll_29 rfl rfl ?_
    refine V.gR hc gR_X4_25 (i' := 1) rfl dX4_tryAll_30 ?_
    refine V.gI hc gI_X4_56 rfl dX4_tryAll_33 ?_
    obtain ⟨g5, hw⟩ := hw
    obtain ⟨g6, hw⟩ := hw
    refine V.icmp_ge hc (tgt := 107) dX4_tryAll_36 (by decide) g5 g6 (fun c7 => ?_) (fun c7 => ?_)
    · replace hw := hw.1 c7
      refine V.drop (lo' := [(1, 0), (1, 0), (1, 0), (1, 0)]) ⟨Or.inl rfl, Or.inl rfl, Or.inl rfl, Or.inr rfl, trivial⟩ ?_
      exact hK107 _ hw
    · replace hw := hw.2 c7
      refine V.iconst hc dX4_tryAll_39 ?_
      refine V.istore_n hc dX4_tryAll_40 rfl rfl (lo' := [(14, o), (0, a1), (0, l2), (0, 1)]) rfl ?_
      obtain ⟨f22, hw⟩ := hw
      refine tX4_tryAll_41 hc hr ?_ f22 _ _ hw
      · intro h23 hw
        refine V.iinc hc dX4_tryAll_101 rfl rfl (lo' := [(14, o), (0, a1), (0, l2 + 1), (1, 0)]) rfl ?_
        refine V.goto hc (tgt := 28) dX4_tryAll_104 (by decide) ?_
        exact ih _ _ hw
theorem qX4_tryAll (G : GG) (l : Launch) (o : Int) (a1 : Int) (h : HP) (P : HP → Prop) (hw : wX4_tryAll o a1 h P) : CnV l G yX4_tryAll cX4_tryAll 4 14 [(14, o), (0, a1)] h P := by
  refine CnV.of (lo := [(14, o), (0, a1), (1, 0), (1, 0)]) (by decide) rfl rfl rfl ?_
  intro p e s m args below meth c hc hr
  have hc : VC G p (rmD 14 0) s m args meth c RX4 cX4_tryAll 4 14 := hc
  refine V.aload_n (t := 4) hc dX4_tryAll_0 rfl rfl ?_
  refine V.iconst hc dX4_tryAll_1 ?_
  refine V.pI hc pI_X4_9 rfl dX4_tryAll_2 (fun h1 e => ?_)
  replace hw := hw h1 e
  clear e
  refine V.aload_n (t := 4) hc dX4_tryAll_5 rfl rfl ?_
  refine V.iconst hc dX4_tryAll_6 ?_
  refine V.pI hc pI_X4_15 rfl dX4_tryAll_7 (fun h2 e => ?_)
  replace hw := hw h2 e
  clear e
  refine V.aload_n (t := 4) hc dX4_tryAll_10 rfl rfl ?_
  refine V.gR hc gR_X4_18 (i' := o) rfl dX4_tryAll_11 ?_
  refine V.iconst hc dX4_tryAll_14 ?_
  refine V.callSV hc (qJ7_fill_53178 G l _ _ _ _ _ hw) mo_J7_fill_53178 ml_X4_50 (as := [(31, o), (0, 0)]) rfl rfl rfl rfl rfl ⟨Nat.zero_le _, Nat.zero_le _⟩ dX4_tryAll_15 (fun h3 hw => ?_)
  refine V.aload_n (t := 4) hc dX4_tryAll_18 rfl rfl ?_
  refine V.gR hc gR_X4_22 (i' := o) rfl dX4_tryAll_19 ?_
  refine V.iconst hc dX4_tryAll_22 ?_
  refine V.callSV hc (qJ7_fill_53178 G l _ _ _ _ _ hw) mo_J7_fill_53178 ml_X4_50 (as := [(32, o), (0, 0)]) rfl rfl rfl rfl rfl ⟨Nat.zero_le _, Nat.zero_le _⟩ dX4_tryAll_23 (fun h4 hw => ?_)
  refine V.iconst hc dX4_tryAll_26 ?_
  refine V.istore_n hc dX4_tryAll_27 rfl rfl (lo' := [(14, o), (0, a1), (0, 0), (1, 0)]) rfl ?_
  obtain ⟨f24, hw⟩ := hw
  refine tX4_tryAll_28 hc hr ?_ f24 _ _ hw
  · intro h25 hw
    exact V.vret hc hr dX4_tryAll_107 hw
theorem tX4_mostUnlike_4 {G : GG} {p : Program} {l : Launch} {e : Jvm.Env} {s : State} {m : MethodId} {args : Array Value} {below : List Frame} {meth : Method} {c : Code} {P : Int → HP → Prop} (hc : VC G p (rmD 8 0) s m args meth c RX4 cX4_mostUnlike 3 8) (hr : meth.sig.returnType = some .int) {o : Int} {h : HP} {K52 : Int → Prop} (hK52 : ∀ (x1 : Int), K52 x1 → V G p l e (rmD 8 0) s m args below meth c (MQ below (QI G P) args s 0 0 (va_Aof G)) 3 52 [(1, 0), (0, x1), (1, 0)] [] h 0) : ∀ (f : Nat) (l1 : Int) (l2 : Int), wX4_mostUnlike_4 o h K52 f l1 l2 → V G p l e (rmD 8 0) s m args below meth c (MQ below (QI G P) args s 0 0 (va_Aof G)) 3 4 [(14, o), (0, l1), (0, l2)] [] h 0 := by
  intro f
  induction f with
  | zero =>
    intro l1 l2 hw
    exact hw.elim
  | succ f ih =>
    intro l1 l2 hw
    refine V.iload_n hc dX4_mostUnlike_4 rfl rfl ?_
    refine V.aload_n (t := 4) hc dX4_mostUnlike_5 rfl rfl ?_
    refine V.gR hc gR_X4_25 (i' := 1) rfl dX4_mostUnlike_6 ?_
    refine V.gI hc gI_X4_96 rfl dX4_mostUnlike_9 ?_
    obtain ⟨g1, hw⟩ := hw
    obtain ⟨g2, hw⟩ := hw
    refine V.icmp_ge hc (tgt := 52) dX4_mostUnlike_12 (by decide) g1 g2 (fun c3 => ?_) (fun c3 => ?_)
    · replace hw := hw.1 c3
      refine V.drop (lo' := [(1, 0), (0, l1), (1, 0)]) ⟨Or.inl rfl, Or.inr rfl, Or.inl rfl, trivial⟩ ?_
      exact hK52 _ hw
    · replace hw := hw.2 c3
      refine V.aload_n (t := 4) hc dX4_mostUnlike_15 rfl rfl ?_
      refine V.gR hc gR_X4_22 (i' := o) rfl dX4_mostUnlike_16 ?_
      refine V.iload_n hc dX4_mostUnlike_19 rfl rfl ?_
      obtain ⟨g4, hw⟩ := hw
      refine V.ald hc ak_22 g4 dX4_mostUnlike_20 ?_
      obtain ⟨q12, hw⟩ := hw
      have kJ13 : ∀ t11 : Int, ((h 22 o l2 ≤ 0 → t11 = l1) ∧ (¬ h 22 o l2 ≤ 0 → ((l1 = (-1) → t11 = l2) ∧ (¬ l1 = (-1) → ((h 22 o l2 ≤ h 22 o l1 → t11 = l1) ∧ (¬ h 22 o l2 ≤ h 22 o l1 → t11 = l2)))))) → V G p l e (rmD 8 0) s m args below meth c (MQ below (QI G P) args s 0 0 (va_Aof G)) 3 46 [(14, o), (0, t11), (0, l2)] [] h 0 := by
        intro t11 he
        replace hw := hw t11 he
        clear he
        refine V.iinc hc dX4_mostUnlike_46 rfl rfl (lo' := [(14, o), (0, t11), (0, l2 + 1)]) rfl ?_
        refine V.goto hc (tgt := 4) dX4_mostUnlike_49 (by decide) ?_
        exact ih _ _ hw
      obtain ⟨g5, q14⟩ := q12
      refine V.if_le hc (tgt := 46) dX4_mostUnlike_21 (by decide) g5 (fun c15 => ?_) (fun c15 => ?_)
      · exact kJ13 _ ⟨fun _ => rfl, (fun q => absurd c15 q)⟩
      · have q16 := q14 c15
        obtain ⟨g6, q17⟩ := q16
        refine V.iload_n hc dX4_mostUnlike_24 rfl rfl ?_
        refine V.iconst hc dX4_mostUnlike_25 ?_
        refine V.icmp_eq hc (tgt := 44) dX4_mostUnlike_26 (by decide) g6 (by omega) (fun c18 => ?_) (fun c18 => ?_)
        · refine V.iload_n hc dX4_mostUnlike_44 rfl rfl ?_
          refine V.istore_n hc dX4_mostUnlike_45 rfl rfl (lo' := [(14, o), (0, l2), (0, l2)]) rfl ?_
          exact kJ13 _ ⟨(fun q => absurd q c15), fun _ => ⟨fun _ => rfl, (fun q => absurd c18 q)⟩⟩
        · have q19 := q17 c18
          obtain ⟨g7, g8, g9, g10⟩ := q19
          refine V.aload_n (t := 4) hc dX4_mostUnlike_29 rfl rfl ?_
          refine V.gR hc gR_X4_22 (i' := o) rfl dX4_mostUnlike_30 ?_
          refine V.iload_n hc dX4_mostUnlike_33 rfl rfl ?_
          refine V.ald hc ak_22 g7 dX4_mostUnlike_34 ?_
          refine V.aload_n (t := 4) hc dX4_mostUnlike_35 rfl rfl ?_
          refine V.gR hc gR_X4_22 (i' := o) rfl dX4_mostUnlike_36 ?_
          refine V.iload_n hc dX4_mostUnlike_39 rfl rfl ?_
          refine V.ald hc ak_22 g8 dX4_mostUnlike_40 ?_
          refine V.icmp_le hc (tgt := 46) dX4_mostUnlike_41 (by decide) g9 g10 (fun c20 => ?_) (fun c20 => ?_)
          · exact kJ13 _ ⟨(fun q => absurd q c15), fun _ => ⟨(fun q => absurd q c18), fun _ => ⟨fun _ => rfl, (fun q => absurd c20 q)⟩⟩⟩
          · refine V.iload_n hc dX4_mostUnlike_44 rfl rfl ?_
            refine V.istore_n hc dX4_mostUnlike_45 rfl rfl (lo' := [(14, o), (0, l2), (0, l2)]) rfl ?_
            exact kJ13 _ ⟨(fun q => absurd q c15), fun _ => ⟨(fun q => absurd q c18), fun _ => ⟨(fun q => absurd q c20), fun _ => rfl⟩⟩⟩
theorem qX4_mostUnlike (G : GG) (l : Launch) (o : Int) (h : HP) (P : Int → HP → Prop) (hw : wX4_mostUnlike o h P) : CnI l G yX4_mostUnlike cX4_mostUnlike 3 (some .int) 8 [(14, o)] h P := by
  refine CnI.of (lo := [(14, o), (1, 0), (1, 0)]) (by decide) rfl rfl rfl ?_
  intro p e s m args below meth c hc hr
  have hc : VC G p (rmD 8 0) s m args meth c RX4 cX4_mostUnlike 3 8 := hc
  refine V.iconst hc dX4_mostUnlike_0 ?_
  refine V.istore_n hc dX4_mostUnlike_1 rfl rfl (lo' := [(14, o), (0, (-1)), (1, 0)]) rfl ?_
  refine V.iconst hc dX4_mostUnlike_2 ?_
  refine V.istore_n hc dX4_mostUnlike_3 rfl rfl (lo' := [(14, o), (0, (-1)), (0, 0)]) rfl ?_
  obtain ⟨f21, hw⟩ := hw
  refine tX4_mostUnlike_4 hc hr ?_ f21 _ _ hw
  · intro l22 hw
    refine V.iload_n hc dX4_mostUnlike_52 rfl rfl ?_
    exact V.iret hc hr dX4_mostUnlike_53 hw
theorem qX4_unlikeOf (G : GG) (l : Launch) (o : Int) (a1 : Int) (h : HP) (P : Int → HP → Prop) (hw : wX4_unlikeOf o a1 h P) : CnI l G yX4_unlikeOf cX4_unlikeOf 2 (some .int) 8 [(14, o), (0, a1)] h P := by
  refine CnI.of (lo := [(14, o), (0, a1)]) (by decide) rfl rfl rfl ?_
  intro p e s m args below meth c hc hr
  have hc : VC G p (rmD 8 0) s m args meth c RX4 cX4_unlikeOf 2 8 := hc
  refine V.iload_n hc dX4_unlikeOf_0 rfl rfl ?_
  refine V.iconst hc dX4_unlikeOf_1 ?_
  obtain ⟨q4, hw⟩ := hw
  have kJ5 : ∀ t3 : Int, ((¬ a1 = (-1) → t3 = h 22 o a1) ∧ (a1 = (-1) → t3 = 0)) → V G p l e (rmD 8 0) s m args below meth c (MQ below (QI G P) args s 0 0 (va_Aof G)) 2 15 [(1, 0), (1, 0)] [(0, t3)] h 0 := by
    intro t3 he
    replace hw := hw t3 he
    clear he
    exact V.iret hc hr dX4_unlikeOf_15 hw
  obtain ⟨g1, q6⟩ := q4
  refine V.icmp_ne hc (tgt := 9) dX4_unlikeOf_2 (by decide) g1 (by omega) (fun c7 => ?_) (fun c7 => ?_)
  · have q8 := q6 c7
    have g2 := q8
    refine V.aload_n (t := 4) hc dX4_unlikeOf_9 rfl rfl ?_
    refine V.gR hc gR_X4_22 (i' := o) rfl dX4_unlikeOf_10 ?_
    refine V.iload_n hc dX4_unlikeOf_13 rfl rfl ?_
    refine V.ald hc ak_22 g2 dX4_unlikeOf_14 ?_
    refine V.drop (lo' := [(1, 0), (1, 0)]) ⟨Or.inl rfl, Or.inl rfl, trivial⟩ ?_
    exact kJ5 _ ⟨fun _ => rfl, (fun q => absurd q c7)⟩
  · refine V.iconst hc dX4_unlikeOf_5 ?_
    refine V.goto hc (tgt := 15) dX4_unlikeOf_6 (by decide) ?_
    refine V.drop (lo' := [(1, 0), (1, 0)]) ⟨Or.inl rfl, Or.inl rfl, trivial⟩ ?_
    exact kJ5 _ ⟨(fun q => absurd c7 q), fun _ => rfl⟩
theorem qX5_size (G : GG) (l : Launch) (o : Int) (h : HP) (P : Int → HP → Prop) (hw : wX5_size o h P) : CnI l G yX5_size cX5_size 1 (some .int) 8 [(15, o)] h P := by
  refine CnI.of (lo := [(15, o)]) (by decide) rfl rfl rfl ?_
  intro p e s m args below meth c hc hr
  have hc : VC G p (rmD 8 0) s m args meth c RX5 cX5_size 1 8 := hc
  refine V.aload_n (t := 5) hc dX5_size_0 rfl rfl ?_
  refine V.gI hc gI_X5_21 rfl dX5_size_1 ?_
  exact V.iret hc hr dX5_size_4 hw
theorem qX5_clear (G : GG) (l : Launch) (o : Int) (h : HP) (P : HP → Prop) (hw : wX5_clear o h P) : CnV l G yX5_clear cX5_clear 1 8 [(15, o)] h P := by
  refine CnV.of (lo := [(15, o)]) (by decide) rfl rfl rfl ?_
  intro p e s m args below meth c hc hr
  have hc : VC G p (rmD 8 0) s m args meth c RX5 cX5_clear 1 8 := hc
  refine V.aload_n (t := 5) hc dX5_clear_0 rfl rfl ?_
  refine V.iconst hc dX5_clear_1 ?_
  refine V.pI hc pI_X5_17 rfl dX5_clear_2 (fun h1 e => ?_)
  replace hw := hw h1 e
  clear e
  refine V.aload_n (t := 5) hc dX5_clear_5 rfl rfl ?_
  refine V.iconst hc dX5_clear_6 ?_
  refine V.pI hc pI_X5_21 rfl dX5_clear_7 (fun h2 e => ?_)
  replace hw := hw h2 e
  clear e
  exact V.vret hc hr dX5_clear_10 hw
theorem qX5_keep (G : GG) (l : Launch) (o : Int) (o1 : Int) (h : HP) (P : HP → Prop) (hw : wX5_keep o o1 h P) : CnV l G yX5_keep cX5_keep 2 10 [(15, o), (16, o1)] h P := by
  refine CnV.of (lo := [(15, o), (16, o1)]) (by decide) rfl rfl rfl ?_
  intro p e s m args below meth c hc hr
  have hc : VC G p (rmD 10 0) s m args meth c RX5 cX5_keep 2 10 := hc
  refine V.aload_n (t := 5) hc dX5_keep_0 rfl rfl ?_
  refine V.gR hc gR_X5_11 (i' := o) rfl dX5_keep_1 ?_
  refine V.aload_n (t := 5) hc dX5_keep_4 rfl rfl ?_
  refine V.gI hc gI_X5_17 rfl dX5_keep_5 ?_
  refine V.aload_n (t := 5) hc dX5_keep_8 rfl rfl ?_
  refine V.gI hc gI_X5_21 rfl dX5_keep_9 ?_
  refine V.iadd hc dX5_keep_12 ?_
  refine V.bipush hc dX5_keep_13 (by decide) ?_
  obtain ⟨g1, hw⟩ := hw
  refine V.irem hc g1 (by omega) dX5_keep_15 ?_
  obtain ⟨g2, hw⟩ := hw
  refine V.aald hc g2 dX5_keep_16 ?_
  refine V.aload_n (t := 6) hc dX5_keep_17 rfl rfl ?_
  refine V.callVV hc (qX6_copyFrom G l _ _ _ _ hw) mo_X6_copyFrom ml_X5_27 (by rfl) rfl rfl (as := [(16, o1)]) rfl rfl rfl rfl rfl ⟨Nat.zero_le _, Nat.zero_le _⟩ dX5_keep_18 (fun h3 hw => ?_)
  refine V.aload_n (t := 5) hc dX5_keep_21 rfl rfl ?_
  refine V.gI hc gI_X5_21 rfl dX5_keep_22 ?_
  refine V.bipush hc dX5_keep_25 (by decide) ?_
  obtain ⟨g4, hw⟩ := hw
  refine V.icmp_ge hc (tgt := 43) dX5_keep_27 (by decide) g4 (by omega) (fun c5 => ?_) (fun c5 => ?_)
  · replace hw := hw.1 c5
    refine V.aload_n (t := 5) hc dX5_keep_43 rfl rfl ?_
    refine V.aload_n (t := 5) hc dX5_keep_44 rfl rfl ?_
    refine V.gI hc gI_X5_17 rfl dX5_keep_45 ?_
    refine V.iconst hc dX5_keep_48 ?_
    refine V.iadd hc dX5_keep_49 ?_
    refine V.bipush hc dX5_keep_50 (by decide) ?_
    obtain ⟨g6, hw⟩ := hw
    refine V.irem hc g6 (by omega) dX5_keep_52 ?_
    refine V.pI hc pI_X5_17 rfl dX5_keep_53 (fun h7 e => ?_)
    replace hw := hw h7 e
    clear e
    exact V.vret hc hr dX5_keep_56 hw
  · replace hw := hw.2 c5
    refine V.aload_n (t := 5) hc dX5_keep_30 rfl rfl ?_
    refine V.dup hc dX5_keep_31 (by simp) ?_
    refine V.gI hc gI_X5_21 rfl dX5_keep_32 ?_
    refine V.iconst hc dX5_keep_35 ?_
    refine V.iadd hc dX5_keep_36 ?_
    refine V.pI hc pI_X5_21 rfl dX5_keep_37 (fun h8 e => ?_)
    replace hw := hw h8 e
    clear e
    refine V.goto hc (tgt := 56) dX5_keep_40 (by decide) ?_
    exact V.vret hc hr dX5_keep_56 hw
theorem qX5_takeBack (G : GG) (l : Launch) (o : Int) (o1 : Int) (h : HP) (P : HP → Prop) (hw : wX5_takeBack o o1 h P) : CnV l G yX5_takeBack cX5_takeBack 2 10 [(15, o), (16, o1)] h P := by
  refine CnV.of (lo := [(15, o), (16, o1)]) (by decide) rfl rfl rfl ?_
  intro p e s m args below meth c hc hr
  have hc : VC G p (rmD 10 0) s m args meth c RX5 cX5_takeBack 2 10 := hc
  refine V.aload_n (t := 5) hc dX5_takeBack_0 rfl rfl ?_
  refine V.gI hc gI_X5_21 rfl dX5_takeBack_1 ?_
  obtain ⟨g1, hw⟩ := hw
  refine V.if_le hc (tgt := 38) dX5_takeBack_4 (by decide) g1 (fun c2 => ?_) (fun c2 => ?_)
  · replace hw := hw.1 c2
    exact V.vret hc hr dX5_takeBack_38 hw
  · replace hw := hw.2 c2
    refine V.aload_n (t := 5) hc dX5_takeBack_7 rfl rfl ?_
    refine V.dup hc dX5_takeBack_8 (by simp) ?_
    refine V.gI hc gI_X5_21 rfl dX5_takeBack_9 ?_
    refine V.iconst hc dX5_takeBack_12 ?_
    refine V.isub hc dX5_takeBack_13 ?_
    refine V.pI hc pI_X5_21 rfl dX5_takeBack_14 (fun h3 e => ?_)
    replace hw := hw h3 e
    clear e
    refine V.aload_n (t := 6) hc dX5_takeBack_17 rfl rfl ?_
    refine V.aload_n (t := 5) hc dX5_takeBack_18 rfl rfl ?_
    refine V.gR hc gR_X5_11 (i' := o) rfl dX5_takeBack_19 ?_
    refine V.aload_n (t := 5) hc dX5_takeBack_22 rfl rfl ?_
    refine V.gI hc gI_X5_17 rfl dX5_takeBack_23 ?_
    refine V.aload_n (t := 5) hc dX5_takeBack_26 rfl rfl ?_
    refine V.gI hc gI_X5_21 rfl dX5_takeBack_27 ?_
    refine V.iadd hc dX5_takeBack_30 ?_
    refine V.bipush hc dX5_takeBack_31 (by decide) ?_
    obtain ⟨g4, hw⟩ := hw
    refine V.irem hc g4 (by omega) dX5_takeBack_33 ?_
    obtain ⟨g5, hw⟩ := hw
    refine V.aald hc g5 dX5_takeBack_34 ?_
    refine V.callVV hc (qX6_copyFrom G l _ _ _ _ hw) mo_X6_copyFrom ml_X5_27 (by rfl) rfl rfl (as := [(16, (if o = 3 then 20 + (((h3 5 o 1) + (h3 5 o 2)) % 40) else 60 + (((h3 5 o 1) + (h3 5 o 2)) % 40)))]) rfl rfl rfl rfl rfl ⟨Nat.zero_le _, Nat.zero_le _⟩ dX5_takeBack_35 (fun h6 hw => ?_)
    exact V.vret hc hr dX5_takeBack_38 hw
theorem tX5_copyFrom_18 {G : GG} {p : Program} {l : Launch} {e : Jvm.Env} {s : State} {m : MethodId} {args : Array Value} {below : List Frame} {meth : Method} {c : Code} {P : HP → Prop} (hc : VC G p (rmD 10 0) s m args meth c RX5 cX5_copyFrom 4 10) (hr : meth.sig.returnType = none) {o : Int} {o1 : Int} {K57 : HP → Prop} (hK57 : ∀  (h : HP), K57  h → V G p l e (rmD 10 0) s m args below meth c (MQ below (QV G P) args s 0 0 (va_Aof G)) 4 57 [(1, 0), (1, 0), (1, 0), (1, 0)] [] h 0) : ∀ (f : Nat) (l2 : Int) (h : HP), wX5_copyFrom_18 o o1 K57 f l2 h → V G p l e (rmD 10 0) s m args below meth c (MQ below (QV G P) args s 0 0 (va_Aof G)) 4 18 [(15, o), (15, o1), (0, l2), (1, 0)] [] h 0 := by
  intro f
  induction f with
  | zero =>
    intro l2 h hw
    exact hw.elim
  | succ f ih =>
    intro l2 h hw
    refine V.iload_n hc dX5_copyFrom_18 rfl rfl ?_
    refine V.aload_n (t := 5) hc dX5_copyFrom_19 rfl rfl ?_
    refine V.gI hc gI_X5_21 rfl dX5_copyFrom_20 ?_
    obtain ⟨g3, hw⟩ := hw
    obtain ⟨g4, hw⟩ := hw
    refine V.icmp_ge hc (tgt := 57) dX5_copyFrom_23 (by decide) g3 g4 (fun c5 => ?_) (fun c5 => ?_)
    · replace hw := hw.1 c5
      refine V.drop (lo' := [(1, 0), (1, 0), (1, 0), (1, 0)]) ⟨Or.inl rfl, Or.inl rfl, Or.inl rfl, Or.inr rfl, trivial⟩ ?_
      exact hK57 _ hw
    · replace hw := hw.2 c5
      refine V.aload_n (t := 5) hc dX5_copyFrom_26 rfl rfl ?_
      refine V.gI hc gI_X5_17 rfl dX5_copyFrom_27 ?_
      refine V.iload_n hc dX5_copyFrom_30 rfl rfl ?_
      refine V.iadd hc dX5_copyFrom_31 ?_
      refine V.bipush hc dX5_copyFrom_32 (by decide) ?_
      obtain ⟨g6, hw⟩ := hw
      refine V.irem hc g6 (by omega) dX5_copyFrom_34 ?_
      refine V.istore_n hc dX5_copyFrom_35 rfl rfl (lo' := [(15, o), (15, o1), (0, l2), (0, ((h 5 o 1) + l2) % 40)]) rfl ?_
      refine V.aload_n (t := 5) hc dX5_copyFrom_36 rfl rfl ?_
      refine V.gR hc gR_X5_11 (i' := o) rfl dX5_copyFrom_37 ?_
      refine V.iload_n hc dX5_copyFrom_40 rfl rfl ?_
      obtain ⟨g7, hw⟩ := hw
      refine V.aald hc g7 dX5_copyFrom_41 ?_
      refine V.aload_n (t := 5) hc dX5_copyFrom_42 rfl rfl ?_
      refine V.gR hc gR_X5_11 (i' := o1) rfl dX5_copyFrom_43 ?_
      refine V.iload_n hc dX5_copyFrom_46 rfl rfl ?_
      obtain ⟨g8, hw⟩ := hw
      refine V.aald hc g8 dX5_copyFrom_47 ?_
      refine V.callVV hc (qX6_copyFrom G l _ _ _ _ hw) mo_X6_copyFrom ml_X5_27 (by rfl) rfl rfl (as := [(16, (if o1 = 3 then 20 + (((h 5 o 1) + l2) % 40) else 60 + (((h 5 o 1) + l2) % 40)))]) rfl rfl rfl rfl rfl ⟨Nat.zero_le _, Nat.zero_le _⟩ dX5_copyFrom_48 (fun h9 hw => ?_)
      refine V.iinc hc dX5_copyFrom_51 rfl rfl (lo' := [(15, o), (15, o1), (0, l2 + 1), (0, ((h 5 o 1) + l2) % 40)]) rfl ?_
      refine V.goto hc (tgt := 18) dX5_copyFrom_54 (by decide) ?_
      refine V.drop (lo' := [(15, o), (15, o1), (0, l2 + 1), (1, 0)]) ⟨Or.inr rfl, Or.inr rfl, Or.inr rfl, Or.inl rfl, trivial⟩ ?_
      exact ih _ _ hw
theorem qX5_copyFrom (G : GG) (l : Launch) (o : Int) (o1 : Int) (h : HP) (P : HP → Prop) (hw : wX5_copyFrom o o1 h P) : CnV l G yX5_copyFrom cX5_copyFrom 4 10 [(15, o), (15, o1)] h P := by
  refine CnV.of (lo := [(15, o), (15, o1), (1, 0), (1, 0)]) (by decide) rfl rfl rfl ?_
  intro p e s m args below meth c hc hr
  have hc : VC G p (rmD 10 0) s m args meth c RX5 cX5_copyFrom 4 10 := hc
  refine V.aload_n (t := 5) hc dX5_copyFrom_0 rfl rfl ?_
  refine V.aload_n (t := 5) hc dX5_copyFrom_1 rfl rfl ?_
  refine V.gI hc gI_X5_17 rfl dX5_copyFrom_2 ?_
  refine V.pI hc pI_X5_17 rfl dX5_copyFrom_5 (fun h1 e => ?_)
  replace hw := hw h1 e
  clear e
  refine V.aload_n (t := 5) hc dX5_copyFrom_8 rfl rfl ?_
  refine V.aload_n (t := 5) hc dX5_copyFrom_9 rfl rfl ?_
  refine V.gI hc gI_X5_21 rfl dX5_copyFrom_10 ?_
  refine V.pI hc pI_X5_21 rfl dX5_copyFrom_13 (fun h2 e => ?_)
  replace hw := hw h2 e
  clear e
  refine V.iconst hc dX5_copyFrom_16 ?_
  refine V.istore_n hc dX5_copyFrom_17 rfl rfl (lo' := [(15, o), (15, o1), (0, 0), (1, 0)]) rfl ?_
  obtain ⟨f10, hw⟩ := hw
  refine tX5_copyFrom_18 hc hr ?_ f10 _ _ hw
  · intro h11 hw
    exact V.vret hc hr dX5_copyFrom_57 hw
theorem qX6_begin (G : GG) (l : Launch) (o : Int) (h : HP) (P : HP → Prop) (hw : wX6_begin o h P) : CnV l G yX6_begin cX6_begin 1 9 [(16, o)] h P := by
  refine CnV.of (lo := [(16, o)]) (by decide) rfl rfl rfl ?_
  intro p e s m args below meth c hc hr
  have hc : VC G p (rmD 9 0) s m args meth c RX6 cX6_begin 1 9 := hc
  refine V.aload_n (t := 6) hc dX6_begin_0 rfl rfl ?_
  refine V.iconst hc dX6_begin_1 ?_
  refine V.pI hc pI_X6_9 rfl dX6_begin_2 (fun h1 e => ?_)
  replace hw := hw h1 e
  clear e
  refine V.aload_n (t := 6) hc dX6_begin_5 rfl rfl ?_
  refine V.iconst hc dX6_begin_6 ?_
  refine V.pI hc pI_X6_15 rfl dX6_begin_7 (fun h2 e => ?_)
  replace hw := hw h2 e
  clear e
  refine V.aload_n (t := 6) hc dX6_begin_10 rfl rfl ?_
  refine V.iconst hc dX6_begin_11 ?_
  refine V.pI hc pI_X6_18 rfl dX6_begin_12 (fun h3 e => ?_)
  replace hw := hw h3 e
  clear e
  refine V.aload_n (t := 6) hc dX6_begin_15 rfl rfl ?_
  refine V.iconst hc dX6_begin_16 ?_
  refine V.pI hc pI_X6_21 rfl dX6_begin_17 (fun h4 e => ?_)
  replace hw := hw h4 e
  clear e
  refine V.aload_n (t := 6) hc dX6_begin_20 rfl rfl ?_
  refine V.iconst hc dX6_begin_21 ?_
  refine V.pI hc pI_X6_24 rfl dX6_begin_22 (fun h5 e => ?_)
  replace hw := hw h5 e
  clear e
  refine V.aload_n (t := 6) hc dX6_begin_25 rfl rfl ?_
  refine V.iconst hc dX6_begin_26 ?_
  refine V.pI hc pI_X6_27 rfl dX6_begin_27 (fun h6 e => ?_)
  replace hw := hw h6 e
  clear e
  refine V.aload_n (t := 6) hc dX6_begin_30 rfl rfl ?_
  refine V.gR hc gR_X6_30 (i' := o) rfl dX6_begin_31 ?_
  refine V.iconst hc dX6_begin_34 ?_
  refine V.callSV hc (qJ7_fill_53178 G l _ _ _ _ _ hw) mo_J7_fill_53178 ml_X6_72 (as := [(34, o), (0, 0)]) rfl rfl rfl rfl rfl ⟨Nat.zero_le _, Nat.zero_le _⟩ dX6_begin_35 (fun h7 hw => ?_)
  refine V.aload_n (t := 6) hc dX6_begin_38 rfl rfl ?_
  refine V.gR hc gR_X6_34 (i' := o) rfl dX6_begin_39 ?_
  refine V.iconst hc dX6_begin_42 ?_
  refine V.callSV hc (qJ7_fill_53178 G l _ _ _ _ _ hw) mo_J7_fill_53178 ml_X6_72 (as := [(35, o), (0, 0)]) rfl rfl rfl rfl rfl ⟨Nat.zero_le _, Nat.zero_le _⟩ dX6_begin_43 (fun h8 hw => ?_)
  refine V.aload_n (t := 6) hc dX6_begin_46 rfl rfl ?_
  refine V.gR hc gR_X6_37 (i' := o) rfl dX6_begin_47 ?_
  refine V.iconst hc dX6_begin_50 ?_
  refine V.callSV hc (qJ7_fill_53178 G l _ _ _ _ _ hw) mo_J7_fill_53178 ml_X6_72 (as := [(36, o), (0, 0)]) rfl rfl rfl rfl rfl ⟨Nat.zero_le _, Nat.zero_le _⟩ dX6_begin_51 (fun h9 hw => ?_)
  refine V.aload_n (t := 6) hc dX6_begin_54 rfl rfl ?_
  refine V.gR hc gR_X6_40 (i' := o) rfl dX6_begin_55 ?_
  refine V.iconst hc dX6_begin_58 ?_
  refine V.callSV hc (qJ7_fill_53178 G l _ _ _ _ _ hw) mo_J7_fill_53178 ml_X6_72 (as := [(37, o), (0, 0)]) rfl rfl rfl rfl rfl ⟨Nat.zero_le _, Nat.zero_le _⟩ dX6_begin_59 (fun h10 hw => ?_)
  refine V.aload_n (t := 6) hc dX6_begin_62 rfl rfl ?_
  refine V.gR hc gR_X6_43 (i' := o) rfl dX6_begin_63 ?_
  refine V.iconst hc dX6_begin_66 ?_
  refine V.callSV hc (qJ7_fill_53178 G l _ _ _ _ _ hw) mo_J7_fill_53178 ml_X6_72 (as := [(38, o), (0, 0)]) rfl rfl rfl rfl rfl ⟨Nat.zero_le _, Nat.zero_le _⟩ dX6_begin_67 (fun h11 hw => ?_)
  refine V.aload_n (t := 6) hc dX6_begin_70 rfl rfl ?_
  refine V.gR hc gR_X6_46 (i' := o) rfl dX6_begin_71 ?_
  refine V.iconst hc dX6_begin_74 ?_
  refine V.callSV hc (qJ7_fill_53178 G l _ _ _ _ _ hw) mo_J7_fill_53178 ml_X6_72 (as := [(39, o), (0, 0)]) rfl rfl rfl rfl rfl ⟨Nat.zero_le _, Nat.zero_le _⟩ dX6_begin_75 (fun h12 hw => ?_)
  refine V.aload_n (t := 6) hc dX6_begin_78 rfl rfl ?_
  refine V.gR hc gR_X6_52 (i' := o) rfl dX6_begin_79 ?_
  refine V.iconst hc dX6_begin_82 ?_
  refine V.callSV hc (qJ7_fill_53178 G l _ _ _ _ _ hw) mo_J7_fill_53178 ml_X6_72 (as := [(41, o), (0, 0)]) rfl rfl rfl rfl rfl ⟨Nat.zero_le _, Nat.zero_le _⟩ dX6_begin_83 (fun h13 hw => ?_)
  refine V.aload_n (t := 6) hc dX6_begin_86 rfl rfl ?_
  refine V.gR hc gR_X6_68 (i' := 1) rfl dX6_begin_87 ?_
  refine V.gR hc gR_X6_78 (i' := 1) rfl dX6_begin_90 ?_
  refine V.iconst hc dX6_begin_93 ?_
  refine V.aload_n (t := 6) hc dX6_begin_94 rfl rfl ?_
  refine V.gR hc gR_X6_55 (i' := o) rfl dX6_begin_95 ?_
  refine V.iconst hc dX6_begin_98 ?_
  refine V.aload_n (t := 6) hc dX6_begin_99 rfl rfl ?_
  refine V.gR hc gR_X6_55 (i' := o) rfl dX6_begin_100 ?_
  refine V.aln hc ak_32 dX6_begin_103 ?_
  obtain ⟨g15, hw⟩ := hw
  refine V.acp hc ml_X6_83 rfl ak_43 ak_32 g15 dX6_begin_104 (fun h14 e => ?_)
  replace hw := hw h14 e
  clear e
  refine V.aload_n (t := 6) hc dX6_begin_107 rfl rfl ?_
  refine V.gR hc gR_X6_61 (i' := o) rfl dX6_begin_108 ?_
  refine V.aload_n (t := 6) hc dX6_begin_111 rfl rfl ?_
  refine V.gR hc gR_X6_68 (i' := 1) rfl dX6_begin_112 ?_
  refine V.gR hc gR_X6_89 (i' := 1) rfl dX6_begin_115 ?_
  refine V.bipush hc dX6_begin_118 (by decide) ?_
  refine V.callVV hc (qX1_copyFrom G l _ _ _ _ _ hw) mo_X1_copyFrom ml_X6_92 (by rfl) rfl rfl (as := [(11, 1), (0, 12)]) rfl rfl rfl rfl rfl ⟨Nat.zero_le _, Nat.zero_le _⟩ dX6_begin_120 (fun h16 hw => ?_)
  exact V.vret hc hr dX6_begin_123 hw
theorem qX6_hasCurve (G : GG) (l : Launch) (o : Int) (a1 : Int) (a2 : Int) (h : HP) (P : Int → HP → Prop) (hw : wX6_hasCurve o a1 a2 h P) : CnI l G yX6_hasCurve cX6_hasCurve 3 (some .boolean) 9 [(16, o), (0, a1), (0, a2)] h P := by
  refine CnI.of (lo := [(16, o), (0, a1), (0, a2)]) (by decide) rfl rfl rfl ?_
  intro p e s m args below meth c hc hr
  have hc : VC G p (rmD 9 0) s m args meth c RX6 cX6_hasCurve 3 9 := hc
  refine V.aload_n (t := 6) hc dX6_hasCurve_0 rfl rfl ?_
  refine V.gR hc gR_X6_61 (i' := o) rfl dX6_hasCurve_1 ?_
  refine V.iload_n hc dX6_hasCurve_4 rfl rfl ?_
  refine V.iconst hc dX6_hasCurve_5 ?_
  refine V.imul hc dX6_hasCurve_6 ?_
  refine V.iload_n hc dX6_hasCurve_7 rfl rfl ?_
  refine V.iadd hc dX6_hasCurve_8 ?_
  refine V.callVI hc (qX1_has G l _ _ _ _ hw) mo_X1_has ml_X6_102 (by rfl) rfl rfl (as := [(0, (a1 * 3) + a2)]) rfl rfl rfl rfl rfl ⟨Nat.zero_le _, Nat.zero_le _⟩ dX6_hasCurve_9 (fun x2 h1 hw => ?_)
  obtain ⟨g3, hw⟩ := hw
  exact V.zret hc hr dX6_hasCurve_12 g3 hw
theorem tX6_bytes_4 {G : GG} {p : Program} {l : Launch} {e : Jvm.Env} {s : State} {m : MethodId} {args : Array Value} {below : List Frame} {meth : Method} {c : Code} {P : Int → HP → Prop} (hc : VC G p (rmD 10 0) s m args meth c RX6 cX6_bytes 4 10) (hr : meth.sig.returnType = some .int) {o : Int} {a1 : Int} {K28 : Int → HP → Prop} (hK28 : ∀ (x2 : Int) (h : HP), K28 x2 h → V G p l e (rmD 10 0) s m args below meth c (MQ below (QI G P) args s 0 0 (va_Aof G)) 4 28 [(1, 0), (1, 0), (0, x2), (1, 0)] [] h 0) : ∀ (f : Nat) (l2 : Int) (l3 : Int) (h : HP), wX6_bytes_4 o a1 K28 f l2 l3 h → V G p l e (rmD 10 0) s m args below meth c (MQ below (QI G P) args s 0 0 (va_Aof G)) 4 4 [(16, o), (0, a1), (0, l2), (0, l3)] [] h 0 := by
  intro f
  induction f with
  | zero =>
    intro l2 l3 h hw
    exact hw.elim
  | succ f ih =>
    intro l2 l3 h hw
    refine V.iload_n hc dX6_bytes_4 rfl rfl ?_
    refine V.aload_n (t := 6) hc dX6_bytes_5 rfl rfl ?_
    refine V.iload_n hc dX6_bytes_6 rfl rfl ?_
    refine V.callVI hc (qX6_packets G l _ _ _ _ hw) mo_X6_packets ml_X6_109 (by rfl) rfl rfl (as := [(0, a1)]) rfl rfl rfl rfl rfl ⟨Nat.zero_le _, Nat.zero_le _⟩ dX6_bytes_7 (fun x2 h1 hw => ?_)
    obtain ⟨g3, hw⟩ := hw
    obtain ⟨g4, hw⟩ := hw
    refine V.icmp_ge hc (tgt := 28) dX6_bytes_10 (by decide) g3 g4 (fun c5 => ?_) (fun c5 => ?_)
    · replace hw := hw.1 c5
      refine V.drop (lo' := [(1, 0), (1, 0), (0, l2), (1, 0)]) ⟨Or.inl rfl, Or.inl rfl, Or.inr rfl, Or.inl rfl, trivial⟩ ?_
      exact hK28 _ _ hw
    · replace hw := hw.2 c5
      refine V.iload_n hc dX6_bytes_13 rfl rfl ?_
      refine V.aload_n (t := 6) hc dX6_bytes_14 rfl rfl ?_
      refine V.iload_n hc dX6_bytes_15 rfl rfl ?_
      refine V.iload_n hc dX6_bytes_16 rfl rfl ?_
      refine V.callVI hc (qX6_sizeOf G l _ _ _ _ _ hw) mo_X6_sizeOf ml_X6_113 (by rfl) rfl rfl (as := [(0, a1), (0, l3)]) rfl rfl rfl rfl rfl ⟨Nat.zero_le _, Nat.zero_le _⟩ dX6_bytes_17 (fun x7 h6 hw => ?_)
      refine V.iadd hc dX6_bytes_20 ?_
      refine V.istore_n hc dX6_bytes_21 rfl rfl (lo' := [(16, o), (0, a1), (0, l2 + x7), (0, l3)]) rfl ?_
      refine V.iinc hc dX6_bytes_22 rfl rfl (lo' := [(16, o), (0, a1), (0, l2 + x7), (0, l3 + 1)]) rfl ?_
      refine V.goto hc (tgt := 4) dX6_bytes_25 (by decide) ?_
      exact ih _ _ _ hw
theorem qX6_bytes (G : GG) (l : Launch) (o : Int) (a1 : Int) (h : HP) (P : Int → HP → Prop) (hw : wX6_bytes o a1 h P) : CnI l G yX6_bytes cX6_bytes 4 (some .int) 10 [(16, o), (0, a1)] h P := by
  refine CnI.of (lo := [(16, o), (0, a1), (1, 0), (1, 0)]) (by decide) rfl rfl rfl ?_
  intro p e s m args below meth c hc hr
  have hc : VC G p (rmD 10 0) s m args meth c RX6 cX6_bytes 4 10 := hc
  refine V.iconst hc dX6_bytes_0 ?_
  refine V.istore_n hc dX6_bytes_1 rfl rfl (lo' := [(16, o), (0, a1), (0, 0), (1, 0)]) rfl ?_
  refine V.iconst hc dX6_bytes_2 ?_
  refine V.istore_n hc dX6_bytes_3 rfl rfl (lo' := [(16, o), (0, a1), (0, 0), (0, 0)]) rfl ?_
  obtain ⟨f8, hw⟩ := hw
  refine tX6_bytes_4 hc hr ?_ f8 _ _ _ hw
  · intro l9 h10 hw
    refine V.iload_n hc dX6_bytes_28 rfl rfl ?_
    exact V.iret hc hr dX6_bytes_29 hw
theorem tX6_activeLeaves_4 {G : GG} {p : Program} {l : Launch} {e : Jvm.Env} {s : State} {m : MethodId} {args : Array Value} {below : List Frame} {meth : Method} {c : Code} {P : Int → HP → Prop} (hc : VC G p (rmD 10 0) s m args meth c RX6 cX6_activeLeaves 3 10) (hr : meth.sig.returnType = some .int) {o : Int} {K37 : Int → HP → Prop} (hK37 : ∀ (x1 : Int) (h : HP), K37 x1 h → V G p l e (rmD 10 0) s m args below meth c (MQ below (QI G P) args s 0 0 (va_Aof G)) 3 37 [(1, 0), (0, x1), (1, 0)] [] h 0) : ∀ (f : Nat) (l1 : Int) (l2 : Int) (h : HP), wX6_activeLeaves_4 o K37 f l1 l2 h → V G p l e (rmD 10 0) s m args below meth c (MQ below (QI G P) args s 0 0 (va_Aof G)) 3 4 [(16, o), (0, l1), (0, l2)] [] h 0 := by
  intro f
  induction f with
  | zero =>
    intro l1 l2 h hw
    exact hw.elim
  | succ f ih =>
    intro l1 l2 h hw
    refine V.iload_n hc dX6_activeLeaves_4 rfl rfl ?_
    refine V.aload_n (t := 6) hc dX6_activeLeaves_5 rfl rfl ?_
    refine V.gR hc gR_X6_68 (i' := 1) rfl dX6_activeLeaves_6 ?_
    refine V.gI hc gI_X6_96 rfl dX6_activeLeaves_9 ?_
    obtain ⟨g1, hw⟩ := hw
    obtain ⟨g2, hw⟩ := hw
    refine V.icmp_ge hc (tgt := 37) dX6_activeLeaves_12 (by decide) g1 g2 (fun c3 => ?_) (fun c3 => ?_)
    · replace hw := hw.1 c3
      refine V.drop (lo' := [(1, 0), (0, l1), (1, 0)]) ⟨Or.inl rfl, Or.inr rfl, Or.inl rfl, trivial⟩ ?_
      exact hK37 _ _ hw
    · replace hw := hw.2 c3
      refine V.iload_n hc dX6_activeLeaves_15 rfl rfl ?_
      refine V.aload_n (t := 6) hc dX6_activeLeaves_16 rfl rfl ?_
      refine V.iload_n hc dX6_activeLeaves_17 rfl rfl ?_
      refine V.callVI hc (qX6_packets G l _ _ _ _ hw) mo_X6_packets ml_X6_109 (by rfl) rfl rfl (as := [(0, l2)]) rfl rfl rfl rfl rfl ⟨Nat.zero_le _, Nat.zero_le _⟩ dX6_activeLeaves_18 (fun x5 h4 hw => ?_)
      obtain ⟨q8, hw⟩ := hw
      have kJ9 : ∀ t7 : Int, ((x5 ≤ 0 → t7 = 0) ∧ (¬ x5 ≤ 0 → t7 = 1)) → V G p l e (rmD 10 0) s m args below meth c (MQ below (QI G P) args s 0 0 (va_Aof G)) 3 29 [(16, o), (1, 0), (0, l2)] [(0, t7), (0, l1)] h4 0 := by
        intro t7 he
        replace hw := hw t7 he
        clear he
        refine V.iadd hc dX6_activeLeaves_29 ?_
        refine V.istore_n hc dX6_activeLeaves_30 rfl rfl (lo' := [(16, o), (0, l1 + t7), (0, l2)]) rfl ?_
        refine V.iinc hc dX6_activeLeaves_31 rfl rfl (lo' := [(16, o), (0, l1 + t7), (0, l2 + 1)]) rfl ?_
        refine V.goto hc (tgt := 4) dX6_activeLeaves_34 (by decide) ?_
        exact ih _ _ _ hw
      have g6 := q8
      refine V.if_le hc (tgt := 28) dX6_activeLeaves_21 (by decide) g6 (fun c10 => ?_) (fun c10 => ?_)
      · refine V.iconst hc dX6_activeLeaves_28 ?_
        refine V.drop (lo' := [(16, o), (1, 0), (0, l2)]) ⟨Or.inr rfl, Or.inl rfl, Or.inr rfl, trivial⟩ ?_
        exact kJ9 _ ⟨fun _ => rfl, (fun q => absurd c10 q)⟩
      · refine V.iconst hc dX6_activeLeaves_24 ?_
        refine V.goto hc (tgt := 29) dX6_activeLeaves_25 (by decide) ?_
        refine V.drop (lo' := [(16, o), (1, 0), (0, l2)]) ⟨Or.inr rfl, Or.inl rfl, Or.inr rfl, trivial⟩ ?_
        exact kJ9 _ ⟨(fun q => absurd q c10), fun _ => rfl⟩
theorem qX6_activeLeaves (G : GG) (l : Launch) (o : Int) (h : HP) (P : Int → HP → Prop) (hw : wX6_activeLeaves o h P) : CnI l G yX6_activeLeaves cX6_activeLeaves 3 (some .int) 10 [(16, o)] h P := by
  refine CnI.of (lo := [(16, o), (1, 0), (1, 0)]) (by decide) rfl rfl rfl ?_
  intro p e s m args below meth c hc hr
  have hc : VC G p (rmD 10 0) s m args meth c RX6 cX6_activeLeaves 3 10 := hc
  refine V.iconst hc dX6_activeLeaves_0 ?_
  refine V.istore_n hc dX6_activeLeaves_1 rfl rfl (lo' := [(16, o), (0, 0), (1, 0)]) rfl ?_
  refine V.iconst hc dX6_activeLeaves_2 ?_
  refine V.istore_n hc dX6_activeLeaves_3 rfl rfl (lo' := [(16, o), (0, 0), (0, 0)]) rfl ?_
  obtain ⟨f11, hw⟩ := hw
  refine tX6_activeLeaves_4 hc hr ?_ f11 _ _ _ hw
  · intro l12 h13 hw
    refine V.iload_n hc dX6_activeLeaves_37 rfl rfl ?_
    exact V.iret hc hr dX6_activeLeaves_38 hw
