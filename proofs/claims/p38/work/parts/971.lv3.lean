theorem tL_isToldAgain_22 {G : GG} {p : Program} {l : Launch} {e : Jvm.Env} {s : State} {m : MethodId} {args : Array Value} {below : List Frame} {meth : Method} {c : Code} {P : Int → HP → Prop} (hc : VC G p (rmD 13 0) s m args meth c RL cL_isToldAgain 7 13) (hr : meth.sig.returnType = some .boolean) (hG : LG G) (hO : OB G 2) {l4 : Int} {l5 : Int} {K48 : HP → Prop} (hK48 : ∀  (h : HP), K48  h → V G p l e (rmD 13 0) s m args below meth c (MQ below (QI G P) args s 0 0 (va_Aof G)) 7 48 [(3, 1), (3, 4), (3, 2), (3, 3), (0, l4), (0, l5), (1, 0)] [] h 0) : ∀ (f : Nat) (l6 : Int) (h : HP), wL_isToldAgain_22 G l4 l5 K48 f l6 h → V G p l e (rmD 13 0) s m args below meth c (MQ below (QI G P) args s 0 0 (va_Aof G)) 7 22 [(3, 1), (3, 4), (3, 2), (3, 3), (0, l4), (0, l5), (0, l6)] [] h 0 := by
  intro f
  induction f with
  | zero =>
    intro l6 h hw
    exact hw.elim
  | succ f ih =>
    intro l6 h hw
    refine V.iload hc dL_isToldAgain_22 rfl ?_
    refine V.iload hc dL_isToldAgain_24 rfl ?_
    obtain ⟨g7, hw⟩ := hw
    obtain ⟨g8, hw⟩ := hw
    refine V.icmp_ge hc (tgt := 48) dL_isToldAgain_26 (by decide) g7 g8 (fun c9 => ?_) (fun c9 => ?_)
    · replace hw := hw.1 c9
      refine V.drop (lo' := [(3, 1), (3, 4), (3, 2), (3, 3), (0, l4), (0, l5), (1, 0)]) ⟨Or.inr rfl, Or.inr rfl, Or.inr rfl, Or.inr rfl, Or.inr rfl, Or.inr rfl, Or.inl rfl, trivial⟩ ?_
      exact hK48 _ hw
    · replace hw := hw.2 c9
      refine V.aloadC_n hc hO.rf dL_isToldAgain_29 rfl rfl ?_
      refine V.aloadC_n hc hG.e3.rf dL_isToldAgain_30 rfl rfl ?_
      refine V.aloadC_n hc hG.o1.rf dL_isToldAgain_31 rfl rfl ?_
      refine V.iload hc dL_isToldAgain_32 rfl ?_
      refine V.iload hc dL_isToldAgain_34 rfl ?_
      refine V.callOI hc hG.o1 (qX11_told _ l _ _ _ _ _ _ hXF hw) mo_X11_told ml_L_72 rfl (as := [(0, l4), (0, l6)]) rfl rfl rfl rfl rfl rfl ⟨Nat.zero_le _, Nat.zero_le _⟩ dL_isToldAgain_36 (fun x11 g12 h10 e hw => ?_)
      replace hw := hw h10 e
      clear e
      refine V.callSV hc (qL_add G l hG _ _ _ _ hO hw) mo_L_add ml_L_14 (as := [(3, 2), (3, 3), (0, x11)]) rfl rfl rfl rfl rfl ⟨Nat.zero_le _, Nat.zero_le _⟩ dL_isToldAgain_39 (fun h13 hw => ?_)
      refine V.iinc hc dL_isToldAgain_42 rfl rfl (lo' := [(3, 1), (3, 4), (3, 2), (3, 3), (0, l4), (0, l5), (0, l6 + 1)]) rfl ?_
      refine V.goto hc (tgt := 22) dL_isToldAgain_45 (by decide) ?_
      exact ih _ _ hw
theorem tL_isToldAgain_3 {G : GG} {p : Program} {l : Launch} {e : Jvm.Env} {s : State} {m : MethodId} {args : Array Value} {below : List Frame} {meth : Method} {c : Code} {P : Int → HP → Prop} (hc : VC G p (rmD 13 0) s m args meth c RL cL_isToldAgain 7 13) (hr : meth.sig.returnType = some .boolean) (hG : LG G) (hO : OB G 2) {K83 : HP → Prop} {K75 : HP → Prop} (hK83 : ∀  (h : HP), K83  h → V G p l e (rmD 13 0) s m args below meth c (MQ below (QI G P) args s 0 0 (va_Aof G)) 7 83 [(3, 1), (3, 4), (3, 2), (3, 3), (1, 0), (1, 0), (1, 0)] [] h 0) (hK75 : ∀  (h : HP), K75  h → V G p l e (rmD 13 0) s m args below meth c (MQ below (QI G P) args s 0 0 (va_Aof G)) 7 75 [(1, 0), (1, 0), (1, 0), (1, 0), (1, 0), (1, 0), (1, 0)] [] h 0) : ∀ (f : Nat) (l4 : Int) (h : HP), wL_isToldAgain_3 G K83 K75 f l4 h → V G p l e (rmD 13 0) s m args below meth c (MQ below (QI G P) args s 0 0 (va_Aof G)) 7 3 [(3, 1), (3, 4), (3, 2), (3, 3), (0, l4), (1, 0), (1, 0)] [] h 0 := by
  intro f
  induction f with
  | zero =>
    intro l4 h hw
    exact hw.elim
  | succ f ih =>
    intro l4 h hw
    refine V.iload hc dL_isToldAgain_3 rfl ?_
    refine V.aloadC_n hc hG.e4.rf dL_isToldAgain_5 rfl rfl ?_
    refine V.laln (ln := (npI G)) hc hG.e4 (by decide) rfl dL_isToldAgain_6 ?_
    obtain ⟨g1, hw⟩ := hw
    obtain ⟨g2, hw⟩ := hw
    refine V.icmp_ge hc (tgt := 83) dL_isToldAgain_7 (by decide) g1 g2 (fun c3 => ?_) (fun c3 => ?_)
    · replace hw := hw.1 c3
      refine V.drop (lo' := [(3, 1), (3, 4), (3, 2), (3, 3), (1, 0), (1, 0), (1, 0)]) ⟨Or.inr rfl, Or.inr rfl, Or.inr rfl, Or.inr rfl, Or.inl rfl, Or.inr rfl, Or.inr rfl, trivial⟩ ?_
      exact hK83 _ hw
    · replace hw := hw.2 c3
      refine V.aloadC_n hc hG.o1.rf dL_isToldAgain_10 rfl rfl ?_
      refine V.iload hc dL_isToldAgain_11 rfl ?_
      refine V.iconst hc dL_isToldAgain_13 ?_
      refine V.callOI hc hG.o1 (qX11_told _ l _ _ _ _ _ _ hXF hw) mo_X11_told ml_L_72 rfl (as := [(0, l4), (0, (-1))]) rfl rfl rfl rfl rfl rfl ⟨Nat.zero_le _, Nat.zero_le _⟩ dL_isToldAgain_14 (fun x5 g6 h4 e hw => ?_)
      replace hw := hw h4 e
      clear e
      refine V.istore hc dL_isToldAgain_17 rfl (lo' := [(3, 1), (3, 4), (3, 2), (3, 3), (0, l4), (0, x5), (1, 0)]) rfl ?_
      refine V.iconst hc dL_isToldAgain_19 ?_
      refine V.istore hc dL_isToldAgain_20 rfl (lo' := [(3, 1), (3, 4), (3, 2), (3, 3), (0, l4), (0, x5), (0, 0)]) rfl ?_
      obtain ⟨f14, hw⟩ := hw
      refine tL_isToldAgain_22 hc hr hG hO ?_ f14 _ _ hw
      · intro h15 hw
        refine V.aloadC_n hc hG.o1.rf dL_isToldAgain_48 rfl rfl ?_
        refine V.iload hc dL_isToldAgain_49 rfl ?_
        refine V.iload hc dL_isToldAgain_51 rfl ?_
        refine V.iconst hc dL_isToldAgain_53 ?_
        refine V.isub hc dL_isToldAgain_54 ?_
        refine V.callOI hc hG.o1 (qX11_told _ l _ _ _ _ _ _ hXF hw) mo_X11_told ml_L_72 rfl (as := [(0, l4), (0, x5 - 1)]) rfl rfl rfl rfl rfl rfl ⟨Nat.zero_le _, Nat.zero_le _⟩ dL_isToldAgain_55 (fun x17 g18 h16 e hw => ?_)
        replace hw := hw h16 e
        clear e
        refine V.bipush hc dL_isToldAgain_58 (by decide) ?_
        obtain ⟨g19, hw⟩ := hw
        refine V.icmp_ne hc (tgt := 75) dL_isToldAgain_60 (by decide) g19 (by omega) (fun c20 => ?_) (fun c20 => ?_)
        · replace hw := hw.1 c20
          refine V.drop (lo' := [(1, 0), (1, 0), (1, 0), (1, 0), (1, 0), (1, 0), (1, 0)]) ⟨Or.inl rfl, Or.inl rfl, Or.inl rfl, Or.inl rfl, Or.inl rfl, Or.inl rfl, Or.inr rfl, trivial⟩ ?_
          exact hK75 _ hw
        · replace hw := hw.2 c20
          refine V.aloadC_n hc hG.o1.rf dL_isToldAgain_63 rfl rfl ?_
          refine V.iload hc dL_isToldAgain_64 rfl ?_
          refine V.iconst hc dL_isToldAgain_66 ?_
          refine V.callOI hc hG.o1 (qX11_told _ l _ _ _ _ _ _ hXF hw) mo_X11_told ml_L_72 rfl (as := [(0, l4), (0, 0)]) rfl rfl rfl rfl rfl rfl ⟨Nat.zero_le _, Nat.zero_le _⟩ dL_isToldAgain_67 (fun x22 g23 h21 e hw => ?_)
          replace hw := hw h21 e
          clear e
          refine V.bipush hc dL_isToldAgain_70 (by decide) ?_
          obtain ⟨g24, hw⟩ := hw
          refine V.icmp_eq hc (tgt := 77) dL_isToldAgain_72 (by decide) g24 (by omega) (fun c25 => ?_) (fun c25 => ?_)
          · replace hw := hw.1 c25
            refine V.iinc hc dL_isToldAgain_77 rfl rfl (lo' := [(3, 1), (3, 4), (3, 2), (3, 3), (0, l4 + 1), (0, x5), (1, 0)]) rfl ?_
            refine V.goto hc (tgt := 3) dL_isToldAgain_80 (by decide) ?_
            refine V.drop (lo' := [(3, 1), (3, 4), (3, 2), (3, 3), (0, l4 + 1), (1, 0), (1, 0)]) ⟨Or.inr rfl, Or.inr rfl, Or.inr rfl, Or.inr rfl, Or.inr rfl, Or.inl rfl, Or.inr rfl, trivial⟩ ?_
            exact ih _ _ hw
          · replace hw := hw.2 c25
            refine V.drop (lo' := [(1, 0), (1, 0), (1, 0), (1, 0), (1, 0), (1, 0), (1, 0)]) ⟨Or.inl rfl, Or.inl rfl, Or.inl rfl, Or.inl rfl, Or.inl rfl, Or.inl rfl, Or.inr rfl, trivial⟩ ?_
            exact hK75 _ hw
theorem tL_isToldAgain_153 {G : GG} {p : Program} {l : Launch} {e : Jvm.Env} {s : State} {m : MethodId} {args : Array Value} {below : List Frame} {meth : Method} {c : Code} {P : Int → HP → Prop} (hc : VC G p (rmD 13 0) s m args meth c RL cL_isToldAgain 7 13) (hr : meth.sig.returnType = some .boolean) (hG : LG G) (hO : OB G 2) {l4 : Int} {K192 : HP → Prop} {K184 : HP → Prop} (hK192 : ∀  (h : HP), K192  h → V G p l e (rmD 13 0) s m args below meth c (MQ below (QI G P) args s 0 0 (va_Aof G)) 7 192 [(3, 1), (3, 4), (3, 2), (1, 0), (0, l4), (1, 0), (1, 0)] [] h 0) (hK184 : ∀  (h : HP), K184  h → V G p l e (rmD 13 0) s m args below meth c (MQ below (QI G P) args s 0 0 (va_Aof G)) 7 184 [(1, 0), (1, 0), (1, 0), (1, 0), (1, 0), (1, 0), (1, 0)] [] h 0) : ∀ (f : Nat) (l5 : Int) (h : HP), wL_isToldAgain_153 G l4 K192 K184 f l5 h → V G p l e (rmD 13 0) s m args below meth c (MQ below (QI G P) args s 0 0 (va_Aof G)) 7 153 [(3, 1), (3, 4), (3, 2), (1, 0), (0, l4), (0, l5), (1, 0)] [] h 0 := by
  intro f
  induction f with
  | zero =>
    intro l5 h hw
    exact hw.elim
  | succ f ih =>
    intro l5 h hw
    refine V.iload hc dL_isToldAgain_153 rfl ?_
    refine V.aloadC_n hc hG.o1.rf dL_isToldAgain_155 rfl rfl ?_
    refine V.iload hc dL_isToldAgain_156 rfl ?_
    refine V.iconst hc dL_isToldAgain_158 ?_
    refine V.callOI hc hG.o1 (qX11_told _ l _ _ _ _ _ _ hXF hw) mo_X11_told ml_L_72 rfl (as := [(0, l4), (0, (-1))]) rfl rfl rfl rfl rfl rfl ⟨Nat.zero_le _, Nat.zero_le _⟩ dL_isToldAgain_159 (fun x61 g62 h60 e hw => ?_)
    replace hw := hw h60 e
    clear e
    obtain ⟨g63, hw⟩ := hw
    obtain ⟨g64, hw⟩ := hw
    refine V.icmp_ge hc (tgt := 192) dL_isToldAgain_162 (by decide) g63 g64 (fun c65 => ?_) (fun c65 => ?_)
    · replace hw := hw.1 c65
      refine V.drop (lo' := [(3, 1), (3, 4), (3, 2), (1, 0), (0, l4), (1, 0), (1, 0)]) ⟨Or.inr rfl, Or.inr rfl, Or.inr rfl, Or.inr rfl, Or.inr rfl, Or.inl rfl, Or.inr rfl, trivial⟩ ?_
      exact hK192 _ hw
    · replace hw := hw.2 c65
      refine V.aloadC_n hc hO.rf dL_isToldAgain_165 rfl rfl ?_
      refine V.iload hc dL_isToldAgain_166 rfl ?_
      refine V.iload hc dL_isToldAgain_168 rfl ?_
      refine V.callOI hc hO (qX11_told _ l _ _ _ _ _ _ hXF hw) mo_X11_told ml_L_72 rfl (as := [(0, l4), (0, l5)]) rfl rfl rfl rfl rfl rfl ⟨Nat.zero_le _, Nat.zero_le _⟩ dL_isToldAgain_170 (fun x67 g68 h66 e hw => ?_)
      replace hw := hw h66 e
      clear e
      refine V.aloadC_n hc hG.o1.rf dL_isToldAgain_173 rfl rfl ?_
      refine V.iload hc dL_isToldAgain_174 rfl ?_
      refine V.iload hc dL_isToldAgain_176 rfl ?_
      refine V.callOI hc hG.o1 (qX11_told _ l _ _ _ _ _ _ hXF hw) mo_X11_told ml_L_72 rfl (as := [(0, l4), (0, l5)]) rfl rfl rfl rfl rfl rfl ⟨Nat.zero_le _, Nat.zero_le _⟩ dL_isToldAgain_178 (fun x70 g71 h69 e hw => ?_)
      replace hw := hw h69 e
      clear e
      obtain ⟨g72, hw⟩ := hw
      obtain ⟨g73, hw⟩ := hw
      refine V.icmp_eq hc (tgt := 186) dL_isToldAgain_181 (by decide) g72 g73 (fun c74 => ?_) (fun c74 => ?_)
      · replace hw := hw.1 c74
        refine V.iinc hc dL_isToldAgain_186 rfl rfl (lo' := [(3, 1), (3, 4), (3, 2), (1, 0), (0, l4), (0, l5 + 1), (1, 0)]) rfl ?_
        refine V.goto hc (tgt := 153) dL_isToldAgain_189 (by decide) ?_
        exact ih _ _ hw
      · replace hw := hw.2 c74
        refine V.drop (lo' := [(1, 0), (1, 0), (1, 0), (1, 0), (1, 0), (1, 0), (1, 0)]) ⟨Or.inl rfl, Or.inl rfl, Or.inl rfl, Or.inr rfl, Or.inl rfl, Or.inl rfl, Or.inr rfl, trivial⟩ ?_
        exact hK184 _ hw
theorem tL_isToldAgain_110 {G : GG} {p : Program} {l : Launch} {e : Jvm.Env} {s : State} {m : MethodId} {args : Array Value} {below : List Frame} {meth : Method} {c : Code} {P : Int → HP → Prop} (hc : VC G p (rmD 13 0) s m args meth c RL cL_isToldAgain 7 13) (hr : meth.sig.returnType = some .boolean) (hG : LG G) (hO : OB G 2) {K198 : HP → Prop} {K148 : HP → Prop} {K184 : HP → Prop} (hK198 : ∀  (h : HP), K198  h → V G p l e (rmD 13 0) s m args below meth c (MQ below (QI G P) args s 0 0 (va_Aof G)) 7 198 [(1, 0), (1, 0), (1, 0), (1, 0), (1, 0), (1, 0), (1, 0)] [] h 0) (hK148 : ∀  (h : HP), K148  h → V G p l e (rmD 13 0) s m args below meth c (MQ below (QI G P) args s 0 0 (va_Aof G)) 7 148 [(1, 0), (1, 0), (1, 0), (1, 0), (1, 0), (1, 0), (1, 0)] [] h 0) (hK184 : ∀  (h : HP), K184  h → V G p l e (rmD 13 0) s m args below meth c (MQ below (QI G P) args s 0 0 (va_Aof G)) 7 184 [(1, 0), (1, 0), (1, 0), (1, 0), (1, 0), (1, 0), (1, 0)] [] h 0) : ∀ (f : Nat) (l4 : Int) (h : HP), wL_isToldAgain_110 G K198 K148 K184 f l4 h → V G p l e (rmD 13 0) s m args below meth c (MQ below (QI G P) args s 0 0 (va_Aof G)) 7 110 [(3, 1), (3, 4), (3, 2), (1, 0), (0, l4), (1, 0), (1, 0)] [] h 0 := by
  intro f
  induction f with
  | zero =>
    intro l4 h hw
    exact hw.elim
  | succ f ih =>
    intro l4 h hw
    refine V.iload hc dL_isToldAgain_110 rfl ?_
    refine V.aloadC_n hc hG.e4.rf dL_isToldAgain_112 rfl rfl ?_
    refine V.laln (ln := (npI G)) hc hG.e4 (by decide) rfl dL_isToldAgain_113 ?_
    obtain ⟨g41, hw⟩ := hw
    obtain ⟨g42, hw⟩ := hw
    refine V.icmp_ge hc (tgt := 198) dL_isToldAgain_114 (by decide) g41 g42 (fun c43 => ?_) (fun c43 => ?_)
    · replace hw := hw.1 c43
      refine V.drop (lo' := [(1, 0), (1, 0), (1, 0), (1, 0), (1, 0), (1, 0), (1, 0)]) ⟨Or.inl rfl, Or.inl rfl, Or.inl rfl, Or.inr rfl, Or.inl rfl, Or.inr rfl, Or.inr rfl, trivial⟩ ?_
      exact hK198 _ hw
    · replace hw := hw.2 c43
      refine V.aloadC_n hc hO.rf dL_isToldAgain_117 rfl rfl ?_
      refine V.iload hc dL_isToldAgain_118 rfl ?_
      refine V.iconst hc dL_isToldAgain_120 ?_
      refine V.callOI hc hO (qX11_of _ l _ _ _ _ _ _ hXF hw) mo_X11_of ml_L_78 rfl (as := [(0, l4), (0, 0)]) rfl rfl rfl rfl rfl rfl ⟨Nat.zero_le _, Nat.zero_le _⟩ dL_isToldAgain_121 (fun x45 g46 h44 e hw => ?_)
      replace hw := hw h44 e
      clear e
      refine V.aloadC_n hc hG.e4.rf dL_isToldAgain_124 rfl rfl ?_
      refine V.iload hc dL_isToldAgain_125 rfl ?_
      obtain ⟨g47, hw⟩ := hw
      refine V.lald (ln := (npI G)) hc hG.e4 (by decide) rfl g47 dL_isToldAgain_127 ?_
      obtain ⟨g48, hw⟩ := hw
      obtain ⟨g49, hw⟩ := hw
      refine V.icmp_ne hc (tgt := 148) dL_isToldAgain_128 (by decide) g48 g49 (fun c50 => ?_) (fun c50 => ?_)
      · replace hw := hw.1 c50
        refine V.drop (lo' := [(1, 0), (1, 0), (1, 0), (1, 0), (1, 0), (1, 0), (1, 0)]) ⟨Or.inl rfl, Or.inl rfl, Or.inl rfl, Or.inr rfl, Or.inl rfl, Or.inr rfl, Or.inr rfl, trivial⟩ ?_
        exact hK148 _ hw
      · replace hw := hw.2 c50
        refine V.aloadC_n hc hO.rf dL_isToldAgain_131 rfl rfl ?_
        refine V.iload hc dL_isToldAgain_132 rfl ?_
        refine V.iconst hc dL_isToldAgain_134 ?_
        refine V.callOI hc hO (qX11_told _ l _ _ _ _ _ _ hXF hw) mo_X11_told ml_L_72 rfl (as := [(0, l4), (0, (-1))]) rfl rfl rfl rfl rfl rfl ⟨Nat.zero_le _, Nat.zero_le _⟩ dL_isToldAgain_135 (fun x52 g53 h51 e hw => ?_)
        replace hw := hw h51 e
        clear e
        refine V.aloadC_n hc hG.o1.rf dL_isToldAgain_138 rfl rfl ?_
        refine V.iload hc dL_isToldAgain_139 rfl ?_
        refine V.iconst hc dL_isToldAgain_141 ?_
        refine V.callOI hc hG.o1 (qX11_told _ l _ _ _ _ _ _ hXF hw) mo_X11_told ml_L_72 rfl (as := [(0, l4), (0, (-1))]) rfl rfl rfl rfl rfl rfl ⟨Nat.zero_le _, Nat.zero_le _⟩ dL_isToldAgain_142 (fun x55 g56 h54 e hw => ?_)
        replace hw := hw h54 e
        clear e
        obtain ⟨g57, hw⟩ := hw
        obtain ⟨g58, hw⟩ := hw
        refine V.icmp_eq hc (tgt := 150) dL_isToldAgain_145 (by decide) g57 g58 (fun c59 => ?_) (fun c59 => ?_)
        · replace hw := hw.1 c59
          refine V.iconst hc dL_isToldAgain_150 ?_
          refine V.istore hc dL_isToldAgain_151 rfl (lo' := [(3, 1), (3, 4), (3, 2), (1, 0), (0, l4), (0, 0), (1, 0)]) rfl ?_
          obtain ⟨f75, hw⟩ := hw
          refine tL_isToldAgain_153 hc hr hG hO ?_ ?_ f75 _ _ hw
          · intro h76 hw
            refine V.iinc hc dL_isToldAgain_192 rfl rfl (lo' := [(3, 1), (3, 4), (3, 2), (1, 0), (0, l4 + 1), (1, 0), (1, 0)]) rfl ?_
            refine V.goto hc (tgt := 110) dL_isToldAgain_195 (by decide) ?_
            exact ih _ _ hw
          · intro h77 hw
            exact hK184 _ hw
        · replace hw := hw.2 c59
          refine V.drop (lo' := [(1, 0), (1, 0), (1, 0), (1, 0), (1, 0), (1, 0), (1, 0)]) ⟨Or.inl rfl, Or.inl rfl, Or.inl rfl, Or.inr rfl, Or.inl rfl, Or.inr rfl, Or.inr rfl, trivial⟩ ?_
          exact hK148 _ hw
theorem qL_isToldAgain (G : GG) (l : Launch) (hG : LG G) (h : HP) (P : Int → HP → Prop) (hO : OB G 2) (hw : wL_isToldAgain G  h P) : CnI l G yL_isToldAgain cL_isToldAgain 7 (some .boolean) 13 [(3, 1), (3, 4), (3, 2), (3, 3)] h P := by
  refine CnI.of (lo := [(3, 1), (3, 4), (3, 2), (3, 3), (1, 0), (1, 0), (1, 0)]) (by decide) rfl rfl rfl ?_
  intro p e s m args below meth c hc hr
  have hc : VC G p (rmD 13 0) s m args meth c RL cL_isToldAgain 7 13 := hc
  refine V.iconst hc dL_isToldAgain_0 ?_
  refine V.istore hc dL_isToldAgain_1 rfl (lo' := [(3, 1), (3, 4), (3, 2), (3, 3), (0, 0), (1, 0), (1, 0)]) rfl ?_
  obtain ⟨f26, hw⟩ := hw
  refine tL_isToldAgain_3 hc hr hG hO ?_ ?_ f26 _ _ hw
  · intro h27 hw
    refine V.aloadC_n hc hO.rf dL_isToldAgain_83 rfl rfl ?_
    refine V.aloadC_n hc hO.rf dL_isToldAgain_84 rfl rfl ?_
    refine V.aloadC_n hc hG.e3.rf dL_isToldAgain_85 rfl rfl ?_
    refine V.callSI hc (qL_end G l hG _ _ _ hO hw) mo_L_end ml_L_64 (as := [(3, 2), (3, 3)]) rfl rfl rfl rfl rfl ⟨Nat.zero_le _, Nat.zero_le _⟩ dL_isToldAgain_86 (fun x29 h28 hw => ?_)
    refine V.callOI hc hO (qX11_link _ l _ _ _ _ _ hXF hw) mo_X11_link ml_L_68 rfl (as := [(0, x29)]) rfl rfl rfl rfl rfl rfl ⟨Nat.zero_le _, Nat.zero_le _⟩ dL_isToldAgain_89 (fun x31 g32 h30 e hw => ?_)
    replace hw := hw h30 e
    clear e
    obtain ⟨g33, hw⟩ := hw
    refine V.if_ne hc (tgt := 105) dL_isToldAgain_92 (by decide) g33 (fun c34 => ?_) (fun c34 => ?_)
    · replace hw := hw.1 c34
      refine V.iconst hc dL_isToldAgain_105 ?_
      exact V.zret hc hr dL_isToldAgain_106 (by omega) hw
    · replace hw := hw.2 c34
      refine V.aloadC_n hc hO.rf dL_isToldAgain_95 rfl rfl ?_
      refine V.iconst hc dL_isToldAgain_96 ?_
      refine V.callOI hc hO (qX11_count _ l _ _ _ _ _ hXF hw) mo_X11_count ml_L_75 rfl (as := [(0, 0)]) rfl rfl rfl rfl rfl rfl ⟨Nat.zero_le _, Nat.zero_le _⟩ dL_isToldAgain_97 (fun x36 g37 h35 e hw => ?_)
      replace hw := hw h35 e
      clear e
      refine V.aloadC_n hc hG.e4.rf dL_isToldAgain_100 rfl rfl ?_
      refine V.laln (ln := (npI G)) hc hG.e4 (by decide) rfl dL_isToldAgain_101 ?_
      obtain ⟨g38, hw⟩ := hw
      obtain ⟨g39, hw⟩ := hw
      refine V.icmp_eq hc (tgt := 107) dL_isToldAgain_102 (by decide) g38 g39 (fun c40 => ?_) (fun c40 => ?_)
      · replace hw := hw.1 c40
        refine V.iconst hc dL_isToldAgain_107 ?_
        refine V.istore hc dL_isToldAgain_108 rfl (lo' := [(3, 1), (3, 4), (3, 2), (3, 3), (0, 0), (1, 0), (1, 0)]) rfl ?_
        obtain ⟨f78, hw⟩ := hw
        refine V.drop (lo' := [(3, 1), (3, 4), (3, 2), (1, 0), (0, 0), (1, 0), (1, 0)]) ⟨Or.inr rfl, Or.inr rfl, Or.inr rfl, Or.inl rfl, Or.inr rfl, Or.inr rfl, Or.inr rfl, trivial⟩ ?_
        refine tL_isToldAgain_110 hc hr hG hO ?_ ?_ ?_ f78 _ _ hw
        · intro h79 hw
          refine V.iconst hc dL_isToldAgain_198 ?_
          exact V.zret hc hr dL_isToldAgain_199 (by omega) hw
        · intro h80 hw
          refine V.iconst hc dL_isToldAgain_148 ?_
          exact V.zret hc hr dL_isToldAgain_149 (by omega) hw
        · intro h81 hw
          refine V.iconst hc dL_isToldAgain_184 ?_
          exact V.zret hc hr dL_isToldAgain_185 (by omega) hw
      · replace hw := hw.2 c40
        refine V.iconst hc dL_isToldAgain_105 ?_
        exact V.zret hc hr dL_isToldAgain_106 (by omega) hw
  · intro h82 hw
    refine V.iconst hc dL_isToldAgain_75 ?_
    exact V.zret hc hr dL_isToldAgain_76 (by omega) hw
theorem tL_isRight_89 {G : GG} {p : Program} {l : Launch} {e : Jvm.Env} {s : State} {m : MethodId} {args : Array Value} {below : List Frame} {meth : Method} {c : Code} {P : Int → HP → Prop} (hc : VC G p (rmD 5 0) s m args meth c RL cL_isRight 11 5) (hr : meth.sig.returnType = some .boolean) (hG : LG G) {l2 : Int} {l3 : Int} {l4 : Int} {l5 : Int} {l6 : Int} {l7 : Int} {l8 : Int} {l9 : Int} {l10 : Int} {h : HP} {K32 : Int → Int → Int → Int → HP → Prop} (hK32 : ∀ (x7 : Int) (x8 : Int) (x9 : Int) (x10 : Int) (h : HP), K32 x7 x8 x9 x10 h → V G p l e (rmD 5 0) s m args below meth c (MQ below (QI G P) args s 0 0 (va_Aof G)) 11 32 [(3, 1), (3, 4), (0, l2), (0, l3), (0, l4), (0, l5), (0, l6), (0, x7), (0, x8), (0, x9), (0, x10)] [] h 0) (hw : wL_isRight_89 G l2 l3 l4 l5 l6 l7 l8 l9 l10 K32 h) : V G p l e (rmD 5 0) s m args below meth c (MQ below (QI G P) args s 0 0 (va_Aof G)) 11 89 [(3, 1), (3, 4), (0, l2), (0, l3), (0, l4), (0, l5), (0, l6), (0, l7), (0, l8), (0, l9), (0, l10)] [] h 0 := by
  refine V.iinc hc dL_isRight_89 rfl rfl (lo' := [(3, 1), (3, 4), (0, l2), (0, l3), (0, l4), (0, l5), (0, l6), (0, l7), (0, l8), (0, l9), (0, l10 + 1)]) rfl ?_
  refine V.goto hc (tgt := 32) dL_isRight_92 (by decide) ?_
  exact hK32 _ _ _ _ _ hw
theorem tL_isRight_32 {G : GG} {p : Program} {l : Launch} {e : Jvm.Env} {s : State} {m : MethodId} {args : Array Value} {below : List Frame} {meth : Method} {c : Code} {P : Int → HP → Prop} (hc : VC G p (rmD 5 0) s m args meth c RL cL_isRight 11 5) (hr : meth.sig.returnType = some .boolean) (hG : LG G) {l2 : Int} {l3 : Int} {l4 : Int} {l5 : Int} {l6 : Int} {K95 : Int → Int → Int → HP → Prop} (hK95 : ∀ (x7 : Int) (x8 : Int) (x9 : Int) (h : HP), K95 x7 x8 x9 h → V G p l e (rmD 5 0) s m args below meth c (MQ below (QI G P) args s 0 0 (va_Aof G)) 11 95 [(3, 1), (3, 4), (0, l2), (0, l3), (0, l4), (0, l5), (0, l6), (0, x7), (0, x8), (0, x9), (1, 0)] [] h 0) : ∀ (f : Nat) (l7 : Int) (l8 : Int) (l9 : Int) (l10 : Int) (h : HP), wL_isRight_32 G l2 l3 l4 l5 l6 K95 f l7 l8 l9 l10 h → V G p l e (rmD 5 0) s m args below meth c (MQ below (QI G P) args s 0 0 (va_Aof G)) 11 32 [(3, 1), (3, 4), (0, l2), (0, l3), (0, l4), (0, l5), (0, l6), (0, l7), (0, l8), (0, l9), (0, l10)] [] h 0 := by
  intro f
  induction f with
  | zero =>
    intro l7 l8 l9 l10 h hw
    exact hw.elim
  | succ f ih =>
    intro l7 l8 l9 l10 h hw
    refine V.iload hc dL_isRight_32 rfl ?_
    refine V.aloadC_n hc hG.e4.rf dL_isRight_34 rfl rfl ?_
    refine V.laln (ln := (npI G)) hc hG.e4 (by decide) rfl dL_isRight_35 ?_
    obtain ⟨g4, hw⟩ := hw
    obtain ⟨g5, hw⟩ := hw
    refine V.icmp_ge hc (tgt := 95) dL_isRight_36 (by decide) g4 g5 (fun c6 => ?_) (fun c6 => ?_)
    · replace hw := hw.1 c6
      refine V.drop (lo' := [(3, 1), (3, 4), (0, l2), (0, l3), (0, l4), (0, l5), (0, l6), (0, l7), (0, l8), (0, l9), (1, 0)]) ⟨Or.inr rfl, Or.inr rfl, Or.inr rfl, Or.inr rfl, Or.inr rfl, Or.inr rfl, Or.inr rfl, Or.inr rfl, Or.inr rfl, Or.inr rfl, Or.inl rfl, trivial⟩ ?_
      exact hK95 _ _ _ _ hw
    · replace hw := hw.2 c6
      refine V.aloadC_n hc hG.e4.rf dL_isRight_39 rfl rfl ?_
      refine V.iload hc dL_isRight_40 rfl ?_
      obtain ⟨g7, hw⟩ := hw
      refine V.lald (ln := (npI G)) hc hG.e4 (by decide) rfl g7 dL_isRight_42 ?_
      refine V.iload hc dL_isRight_43 rfl ?_
      obtain ⟨g8, hw⟩ := hw
      obtain ⟨g9, hw⟩ := hw
      refine V.icmp_eq hc (tgt := 51) dL_isRight_45 (by decide) g8 g9 (fun c10 => ?_) (fun c10 => ?_)
      · replace hw := hw.1 c10
        refine V.iload hc dL_isRight_51 rfl ?_
        refine V.aloadC_n hc hG.o1.rf dL_isRight_53 rfl rfl ?_
        refine V.iload hc dL_isRight_54 rfl ?_
        refine V.iconst hc dL_isRight_56 ?_
        refine V.callOI hc hG.o1 (qX11_of _ l _ _ _ _ _ _ hXF hw) mo_X11_of ml_L_78 rfl (as := [(0, l10), (0, 3)]) rfl rfl rfl rfl rfl rfl ⟨Nat.zero_le _, Nat.zero_le _⟩ dL_isRight_57 (fun x12 g13 h11 e hw => ?_)
        replace hw := hw h11 e
        clear e
        refine V.iadd hc dL_isRight_60 ?_
        refine V.istore hc dL_isRight_61 rfl (lo' := [(3, 1), (3, 4), (0, l2), (0, l3), (0, l4), (0, l5), (0, l6), (0, l7 + x12), (0, l8), (0, l9), (0, l10)]) rfl ?_
        refine V.iload hc dL_isRight_63 rfl ?_
        refine V.aloadC_n hc hG.o1.rf dL_isRight_65 rfl rfl ?_
        refine V.iload hc dL_isRight_66 rfl ?_
        refine V.iconst hc dL_isRight_68 ?_
        refine V.callOI hc hG.o1 (qX11_of _ l _ _ _ _ _ _ hXF hw) mo_X11_of ml_L_78 rfl (as := [(0, l10), (0, 2)]) rfl rfl rfl rfl rfl rfl ⟨Nat.zero_le _, Nat.zero_le _⟩ dL_isRight_69 (fun x15 g16 h14 e hw => ?_)
        replace hw := hw h14 e
        clear e
        refine V.iadd hc dL_isRight_72 ?_
        refine V.istore hc dL_isRight_73 rfl (lo' := [(3, 1), (3, 4), (0, l2), (0, l3), (0, l4), (0, l5), (0, l6), (0, l7 + x12), (0, l8 + x15), (0, l9), (0, l10)]) rfl ?_
        refine V.iload hc dL_isRight_75 rfl ?_
        refine V.aloadC_n hc hG.o1.rf dL_isRight_77 rfl rfl ?_
        refine V.iload hc dL_isRight_78 rfl ?_
        refine V.iconst hc dL_isRight_80 ?_
        refine V.callOI hc hG.o1 (qX11_of _ l _ _ _ _ _ _ hXF hw) mo_X11_of ml_L_78 rfl (as := [(0, l10), (0, 5)]) rfl rfl rfl rfl rfl rfl ⟨Nat.zero_le _, Nat.zero_le _⟩ dL_isRight_81 (fun x18 g19 h17 e hw => ?_)
        replace hw := hw h17 e
        clear e
        obtain ⟨g20, hw⟩ := hw
        obtain ⟨g21, hw⟩ := hw
        refine V.mmax hc ml_L_81 rfl rfl g20 g21 dL_isRight_84 ?_
        refine V.istore hc dL_isRight_87 rfl (lo' := [(3, 1), (3, 4), (0, l2), (0, l3), (0, l4), (0, l5), (0, l6), (0, l7 + x12), (0, l8 + x15), (0, max l9 x18), (0, l10)]) rfl ?_
        exact tL_isRight_89 hc hr hG (fun y7 y8 y9 y10 hy hw => by exact ih _ _ _ _ _ hw) hw
      · replace hw := hw.2 c10
        refine V.goto hc (tgt := 89) dL_isRight_48 (by decide) ?_
        exact tL_isRight_89 hc hr hG (fun y7 y8 y9 y10 hy hw => by exact ih _ _ _ _ _ hw) hw
theorem tL_isRight_330 {G : GG} {p : Program} {l : Launch} {e : Jvm.Env} {s : State} {m : MethodId} {args : Array Value} {below : List Frame} {meth : Method} {c : Code} {P : Int → HP → Prop} (hc : VC G p (rmD 5 0) s m args meth c RL cL_isRight 11 5) (hr : meth.sig.returnType = some .boolean) (hG : LG G) {l2 : Int} {l3 : Int} {l4 : Int} {l5 : Int} {l6 : Int} {h : HP} {K13 : Int → Int → Int → Int → Int → HP → Prop} (hK13 : ∀ (x2 : Int) (x3 : Int) (x4 : Int) (x5 : Int) (x6 : Int) (h : HP), K13 x2 x3 x4 x5 x6 h → V G p l e (rmD 5 0) s m args below meth c (MQ below (QI G P) args s 0 0 (va_Aof G)) 11 13 [(3, 1), (3, 4), (0, x2), (0, x3), (0, x4), (0, x5), (0, x6), (1, 0), (1, 0), (1, 0), (1, 0)] [] h 0) (hw : wL_isRight_330 G l2 l3 l4 l5 l6 K13 h) : V G p l e (rmD 5 0) s m args below meth c (MQ below (QI G P) args s 0 0 (va_Aof G)) 11 330 [(3, 1), (3, 4), (0, l2), (0, l3), (0, l4), (0, l5), (0, l6), (1, 0), (1, 0), (1, 0), (1, 0)] [] h 0 := by
  refine V.iinc hc dL_isRight_330 rfl rfl (lo' := [(3, 1), (3, 4), (0, l2), (0, l3), (0, l4), (0, l5), (0, l6 + 1), (1, 0), (1, 0), (1, 0), (1, 0)]) rfl ?_
  refine V.goto hc (tgt := 13) dL_isRight_333 (by decide) ?_
  exact hK13 _ _ _ _ _ _ hw
theorem tL_isRight_302 {G : GG} {p : Program} {l : Launch} {e : Jvm.Env} {s : State} {m : MethodId} {args : Array Value} {below : List Frame} {meth : Method} {c : Code} {P : Int → HP → Prop} (hc : VC G p (rmD 5 0) s m args meth c RL cL_isRight 11 5) (hr : meth.sig.returnType = some .boolean) (hG : LG G) {l2 : Int} {l3 : Int} {l4 : Int} {l6 : Int} {s0 : Int} {s1 : Int} {h : HP} {K13 : Int → Int → Int → Int → Int → HP → Prop} {K328 : HP → Prop} (hK13 : ∀ (x2 : Int) (x3 : Int) (x4 : Int) (x5 : Int) (x6 : Int) (h : HP), K13 x2 x3 x4 x5 x6 h → V G p l e (rmD 5 0) s m args below meth c (MQ below (QI G P) args s 0 0 (va_Aof G)) 11 13 [(3, 1), (3, 4), (0, x2), (0, x3), (0, x4), (0, x5), (0, x6), (1, 0), (1, 0), (1, 0), (1, 0)] [] h 0) (hK328 : ∀  (h : HP), K328  h → V G p l e (rmD 5 0) s m args below meth c (MQ below (QI G P) args s 0 0 (va_Aof G)) 11 328 [(1, 0), (1, 0), (1, 0), (1, 0), (1, 0), (1, 0), (1, 0), (1, 0), (1, 0), (1, 0), (1, 0)] [] h 0) (hw : wL_isRight_302 G l2 l3 l4 l6 s0 s1 K13 K328 h) : V G p l e (rmD 5 0) s m args below meth c (MQ below (QI G P) args s 0 0 (va_Aof G)) 11 302 [(3, 1), (3, 4), (0, l2), (0, l3), (0, l4), (1, 0), (0, l6), (1, 0), (1, 0), (1, 0), (1, 0)] [(0, s0), (0, s1)] h 0 := by
  refine V.iadd hc dL_isRight_302 ?_
  refine V.istore hc dL_isRight_303 rfl (lo' := [(3, 1), (3, 4), (0, l2), (0, l3), (0, l4), (0, s1 + s0), (0, l6), (1, 0), (1, 0), (1, 0), (1, 0)]) rfl ?_
  refine V.aloadC_n hc hG.e4.rf dL_isRight_305 rfl rfl ?_
  refine V.iload hc dL_isRight_306 rfl ?_
  obtain ⟨g44, hw⟩ := hw
  refine V.lald (ln := (npI G)) hc hG.e4 (by decide) rfl g44 dL_isRight_308 ?_
  obtain ⟨g45, hw⟩ := hw
  refine V.if_ge hc (tgt := 330) dL_isRight_309 (by decide) g45 (fun c46 => ?_) (fun c46 => ?_)
  · replace hw := hw.1 c46
    exact tL_isRight_330 hc hr hG (fun y2 y3 y4 y5 y6 hy hw => by exact hK13 _ _ _ _ _ _ hw) hw
  · replace hw := hw.2 c46
    refine V.aloadC_n hc hG.o1.rf dL_isRight_312 rfl rfl ?_
    refine V.iload hc dL_isRight_313 rfl ?_
    refine V.iconst hc dL_isRight_315 ?_
    refine V.callOI hc hG.o1 (qX11_of _ l _ _ _ _ _ _ hXF hw) mo_X11_of ml_L_78 rfl (as := [(0, l6), (0, 5)]) rfl rfl rfl rfl rfl rfl ⟨Nat.zero_le _, Nat.zero_le _⟩ dL_isRight_316 (fun x48 g49 h47 e hw => ?_)
    replace hw := hw h47 e
    clear e
    refine V.aloadC_n hc hG.o1.rf dL_isRight_319 rfl rfl ?_
    refine V.bipush hc dL_isRight_320 (by decide) ?_
    refine V.callOI hc hG.o1 (qX11_count _ l _ _ _ _ _ hXF hw) mo_X11_count ml_L_75 rfl (as := [(0, 9)]) rfl rfl rfl rfl rfl rfl ⟨Nat.zero_le _, Nat.zero_le _⟩ dL_isRight_322 (fun x51 g52 h50 e hw => ?_)
    replace hw := hw h50 e
    clear e
    obtain ⟨g53, hw⟩ := hw
    obtain ⟨g54, hw⟩ := hw
    refine V.icmp_le hc (tgt := 330) dL_isRight_325 (by decide) g53 g54 (fun c55 => ?_) (fun c55 => ?_)
    · replace hw := hw.1 c55
      exact tL_isRight_330 hc hr hG (fun y2 y3 y4 y5 y6 hy hw => by exact hK13 _ _ _ _ _ _ hw) hw
    · replace hw := hw.2 c55
      refine V.drop (lo' := [(1, 0), (1, 0), (1, 0), (1, 0), (1, 0), (1, 0), (1, 0), (1, 0), (1, 0), (1, 0), (1, 0)]) ⟨Or.inl rfl, Or.inl rfl, Or.inl rfl, Or.inl rfl, Or.inl rfl, Or.inl rfl, Or.inl rfl, Or.inr rfl, Or.inr rfl, Or.inr rfl, Or.inr rfl, trivial⟩ ?_
      exact hK328 _ hw
theorem tL_isRight_279 {G : GG} {p : Program} {l : Launch} {e : Jvm.Env} {s : State} {m : MethodId} {args : Array Value} {below : List Frame} {meth : Method} {c : Code} {P : Int → HP → Prop} (hc : VC G p (rmD 5 0) s m args meth c RL cL_isRight 11 5) (hr : meth.sig.returnType = some .boolean) (hG : LG G) {l2 : Int} {l3 : Int} {l5 : Int} {l6 : Int} {s0 : Int} {s1 : Int} {h : HP} {K13 : Int → Int → Int → Int → Int → HP → Prop} {K328 : HP → Prop} (hK13 : ∀ (x2 : Int) (x3 : Int) (x4 : Int) (x5 : Int) (x6 : Int) (h : HP), K13 x2 x3 x4 x5 x6 h → V G p l e (rmD 5 0) s m args below meth c (MQ below (QI G P) args s 0 0 (va_Aof G)) 11 13 [(3, 1), (3, 4), (0, x2), (0, x3), (0, x4), (0, x5), (0, x6), (1, 0), (1, 0), (1, 0), (1, 0)] [] h 0) (hK328 : ∀  (h : HP), K328  h → V G p l e (rmD 5 0) s m args below meth c (MQ below (QI G P) args s 0 0 (va_Aof G)) 11 328 [(1, 0), (1, 0), (1, 0), (1, 0), (1, 0), (1, 0), (1, 0), (1, 0), (1, 0), (1, 0), (1, 0)] [] h 0) (hw : wL_isRight_279 G l2 l3 l5 l6 s0 s1 K13 K328 h) : V G p l e (rmD 5 0) s m args below meth c (MQ below (QI G P) args s 0 0 (va_Aof G)) 11 279 [(3, 1), (3, 4), (0, l2), (0, l3), (1, 0), (0, l5), (0, l6), (1, 0), (1, 0), (1, 0), (1, 0)] [(0, s0), (0, s1)] h 0 := by
  refine V.iadd hc dL_isRight_279 ?_
  refine V.istore hc dL_isRight_280 rfl (lo' := [(3, 1), (3, 4), (0, l2), (0, l3), (0, s1 + s0), (0, l5), (0, l6), (1, 0), (1, 0), (1, 0), (1, 0)]) rfl ?_
  refine V.iload hc dL_isRight_282 rfl ?_
  refine V.aloadC_n hc hG.e4.rf dL_isRight_284 rfl rfl ?_
  refine V.iload hc dL_isRight_285 rfl ?_
  obtain ⟨g41, hw⟩ := hw
  refine V.lald (ln := (npI G)) hc hG.e4 (by decide) rfl g41 dL_isRight_287 ?_
  obtain ⟨g42, hw⟩ := hw
  refine V.if_ge hc (tgt := 301) dL_isRight_288 (by decide) g42 (fun c43 => ?_) (fun c43 => ?_)
  · replace hw := hw.1 c43
    refine V.iconst hc dL_isRight_301 ?_
    refine V.drop (lo' := [(3, 1), (3, 4), (0, l2), (0, l3), (0, s1 + s0), (1, 0), (0, l6), (1, 0), (1, 0), (1, 0), (1, 0)]) ⟨Or.inr rfl, Or.inr rfl, Or.inr rfl, Or.inr rfl, Or.inr rfl, Or.inl rfl, Or.inr rfl, Or.inr rfl, Or.inr rfl, Or.inr rfl, Or.inr rfl, trivial⟩ ?_
    exact tL_isRight_302 hc hr hG (fun y2 y3 y4 y5 y6 hy hw => by exact hK13 _ _ _ _ _ _ hw) (fun hy hw => by exact hK328 _ hw) hw
  · replace hw := hw.2 c43
    refine V.aloadC_n hc hG.o1.rf dL_isRight_291 rfl rfl ?_
    refine V.iload hc dL_isRight_292 rfl ?_
    refine V.iconst hc dL_isRight_294 ?_
    refine V.callOI hc hG.o1 (qX11_of _ l _ _ _ _ _ _ hXF hw) mo_X11_of ml_L_78 rfl (as := [(0, l6), (0, 3)]) rfl rfl rfl rfl rfl rfl ⟨Nat.zero_le _, Nat.zero_le _⟩ dL_isRight_295 (fun x57 g58 h56 e hw => ?_)
    replace hw := hw h56 e
    clear e
    refine V.goto hc (tgt := 302) dL_isRight_298 (by decide) ?_
    refine V.drop (lo' := [(3, 1), (3, 4), (0, l2), (0, l3), (0, s1 + s0), (1, 0), (0, l6), (1, 0), (1, 0), (1, 0), (1, 0)]) ⟨Or.inr rfl, Or.inr rfl, Or.inr rfl, Or.inr rfl, Or.inr rfl, Or.inl rfl, Or.inr rfl, Or.inr rfl, Or.inr rfl, Or.inr rfl, Or.inr rfl, trivial⟩ ?_
    exact tL_isRight_302 hc hr hG (fun y2 y3 y4 y5 y6 hy hw => by exact hK13 _ _ _ _ _ _ hw) (fun hy hw => by exact hK328 _ hw) hw
theorem tL_isRight_239 {G : GG} {p : Program} {l : Launch} {e : Jvm.Env} {s : State} {m : MethodId} {args : Array Value} {below : List Frame} {meth : Method} {c : Code} {P : Int → HP → Prop} (hc : VC G p (rmD 5 0) s m args meth c RL cL_isRight 11 5) (hr : meth.sig.returnType = some .boolean) (hG : LG G) {l2 : Int} {l3 : Int} {l4 : Int} {l5 : Int} {l6 : Int} {l10 : Int} {h : HP} {K13 : Int → Int → Int → Int → Int → HP → Prop} {K328 : HP → Prop} (hK13 : ∀ (x2 : Int) (x3 : Int) (x4 : Int) (x5 : Int) (x6 : Int) (h : HP), K13 x2 x3 x4 x5 x6 h → V G p l e (rmD 5 0) s m args below meth c (MQ below (QI G P) args s 0 0 (va_Aof G)) 11 13 [(3, 1), (3, 4), (0, x2), (0, x3), (0, x4), (0, x5), (0, x6), (1, 0), (1, 0), (1, 0), (1, 0)] [] h 0) (hK328 : ∀  (h : HP), K328  h → V G p l e (rmD 5 0) s m args below meth c (MQ below (QI G P) args s 0 0 (va_Aof G)) 11 328 [(1, 0), (1, 0), (1, 0), (1, 0), (1, 0), (1, 0), (1, 0), (1, 0), (1, 0), (1, 0), (1, 0)] [] h 0) (hw : wL_isRight_239 G l2 l3 l4 l5 l6 l10 K13 K328 h) : V G p l e (rmD 5 0) s m args below meth c (MQ below (QI G P) args s 0 0 (va_Aof G)) 11 239 [(3, 1), (3, 4), (0, l2), (0, l3), (0, l4), (0, l5), (0, l6), (1, 0), (1, 0), (1, 0), (0, l10)] [] h 0 := by
  refine V.iload_n hc dL_isRight_239 rfl rfl ?_
  refine V.aloadC_n hc hG.o1.rf dL_isRight_240 rfl rfl ?_
  refine V.iload hc dL_isRight_241 rfl ?_
  refine V.bipush hc dL_isRight_243 (by decide) ?_
  refine V.callOI hc hG.o1 (qX11_of _ l _ _ _ _ _ _ hXF hw) mo_X11_of ml_L_78 rfl (as := [(0, l6), (0, 8)]) rfl rfl rfl rfl rfl rfl ⟨Nat.zero_le _, Nat.zero_le _⟩ dL_isRight_245 (fun x34 g35 h33 e hw => ?_)
  replace hw := hw h33 e
  clear e
  refine V.iadd hc dL_isRight_248 ?_
  refine V.istore_n hc dL_isRight_249 rfl rfl (lo' := [(3, 1), (3, 4), (0, l2 + x34), (0, l3), (0, l4), (0, l5), (0, l6), (1, 0), (1, 0), (1, 0), (0, l10)]) rfl ?_
  refine V.iload_n hc dL_isRight_250 rfl rfl ?_
  refine V.aloadC_n hc hG.o1.rf dL_isRight_251 rfl rfl ?_
  refine V.iload hc dL_isRight_252 rfl ?_
  refine V.bipush hc dL_isRight_254 (by decide) ?_
  refine V.callOI hc hG.o1 (qX11_of _ l _ _ _ _ _ _ hXF hw) mo_X11_of ml_L_78 rfl (as := [(0, l6), (0, 7)]) rfl rfl rfl rfl rfl rfl ⟨Nat.zero_le _, Nat.zero_le _⟩ dL_isRight_256 (fun x37 g38 h36 e hw => ?_)
  replace hw := hw h36 e
  clear e
  refine V.iadd hc dL_isRight_259 ?_
  refine V.istore_n hc dL_isRight_260 rfl rfl (lo' := [(3, 1), (3, 4), (0, l2 + x34), (0, l3 + x37), (0, l4), (0, l5), (0, l6), (1, 0), (1, 0), (1, 0), (0, l10)]) rfl ?_
  refine V.iload hc dL_isRight_261 rfl ?_
  refine V.iload hc dL_isRight_263 rfl ?_
  obtain ⟨g39, hw⟩ := hw
  refine V.if_eq hc (tgt := 278) dL_isRight_265 (by decide) g39 (fun c40 => ?_) (fun c40 => ?_)
  · replace hw := hw.1 c40
    refine V.iconst hc dL_isRight_278 ?_
    refine V.drop (lo' := [(3, 1), (3, 4), (0, l2 + x34), (0, l3 + x37), (1, 0), (0, l5), (0, l6), (1, 0), (1, 0), (1, 0), (1, 0)]) ⟨Or.inr rfl, Or.inr rfl, Or.inr rfl, Or.inr rfl, Or.inl rfl, Or.inr rfl, Or.inr rfl, Or.inr rfl, Or.inr rfl, Or.inr rfl, Or.inl rfl, trivial⟩ ?_
    exact tL_isRight_279 hc hr hG (fun y2 y3 y4 y5 y6 hy hw => by exact hK13 _ _ _ _ _ _ hw) (fun hy hw => by exact hK328 _ hw) hw
  · replace hw := hw.2 c40
    refine V.aloadC_n hc hG.o1.rf dL_isRight_268 rfl rfl ?_
    refine V.iload hc dL_isRight_269 rfl ?_
    refine V.iconst hc dL_isRight_271 ?_
    refine V.callOI hc hG.o1 (qX11_of _ l _ _ _ _ _ _ hXF hw) mo_X11_of ml_L_78 rfl (as := [(0, l6), (0, 2)]) rfl rfl rfl rfl rfl rfl ⟨Nat.zero_le _, Nat.zero_le _⟩ dL_isRight_272 (fun x60 g61 h59 e hw => ?_)
    replace hw := hw h59 e
    clear e
    refine V.goto hc (tgt := 279) dL_isRight_275 (by decide) ?_
    refine V.drop (lo' := [(3, 1), (3, 4), (0, l2 + x34), (0, l3 + x37), (1, 0), (0, l5), (0, l6), (1, 0), (1, 0), (1, 0), (1, 0)]) ⟨Or.inr rfl, Or.inr rfl, Or.inr rfl, Or.inr rfl, Or.inl rfl, Or.inr rfl, Or.inr rfl, Or.inr rfl, Or.inr rfl, Or.inr rfl, Or.inl rfl, trivial⟩ ?_
    exact tL_isRight_279 hc hr hG (fun y2 y3 y4 y5 y6 hy hw => by exact hK13 _ _ _ _ _ _ hw) (fun hy hw => by exact hK328 _ hw) hw
theorem tL_isRight_176 {G : GG} {p : Program} {l : Launch} {e : Jvm.Env} {s : State} {m : MethodId} {args : Array Value} {below : List Frame} {meth : Method} {c : Code} {P : Int → HP → Prop} (hc : VC G p (rmD 5 0) s m args meth c RL cL_isRight 11 5) (hr : meth.sig.returnType = some .boolean) (hG : LG G) {l2 : Int} {l3 : Int} {l4 : Int} {l5 : Int} {l6 : Int} {l10 : Int} {h : HP} {K13 : Int → Int → Int → Int → Int → HP → Prop} {K237 : HP → Prop} {K328 : HP → Prop} (hK13 : ∀ (x2 : Int) (x3 : Int) (x4 : Int) (x5 : Int) (x6 : Int) (h : HP), K13 x2 x3 x4 x5 x6 h → V G p l e (rmD 5 0) s m args below meth c (MQ below (QI G P) args s 0 0 (va_Aof G)) 11 13 [(3, 1), (3, 4), (0, x2), (0, x3), (0, x4), (0, x5), (0, x6), (1, 0), (1, 0), (1, 0), (1, 0)] [] h 0) (hK237 : ∀  (h : HP), K237  h → V G p l e (rmD 5 0) s m args below meth c (MQ below (QI G P) args s 0 0 (va_Aof G)) 11 237 [(1, 0), (1, 0), (1, 0), (1, 0), (1, 0), (1, 0), (1, 0), (1, 0), (1, 0), (1, 0), (1, 0)] [] h 0) (hK328 : ∀  (h : HP), K328  h → V G p l e (rmD 5 0) s m args below meth c (MQ below (QI G P) args s 0 0 (va_Aof G)) 11 328 [(1, 0), (1, 0), (1, 0), (1, 0), (1, 0), (1, 0), (1, 0), (1, 0), (1, 0), (1, 0), (1, 0)] [] h 0) (hw : wL_isRight_176 G l2 l3 l4 l5 l6 l10 K13 K237 K328 h) : V G p l e (rmD 5 0) s m args below meth c (MQ below (QI G P) args s 0 0 (va_Aof G)) 11 176 [(3, 1), (3, 4), (0, l2), (0, l3), (0, l4), (0, l5), (0, l6), (1, 0), (1, 0), (1, 0), (0, l10)] [] h 0 := by
  refine V.iload hc dL_isRight_176 rfl ?_
  obtain ⟨g31, hw⟩ := hw
  refine V.if_eq hc (tgt := 239) dL_isRight_178 (by decide) g31 (fun c32 => ?_) (fun c32 => ?_)
  · replace hw := hw.1 c32
    exact tL_isRight_239 hc hr hG (fun y2 y3 y4 y5 y6 hy hw => by exact hK13 _ _ _ _ _ _ hw) (fun hy hw => by exact hK328 _ hw) hw
  · replace hw := hw.2 c32
    refine V.aloadC_n hc hG.o1.rf dL_isRight_181 rfl rfl ?_
    refine V.iload hc dL_isRight_182 rfl ?_
    refine V.iconst hc dL_isRight_184 ?_
    refine V.callOI hc hG.o1 (qX11_of _ l _ _ _ _ _ _ hXF hw) mo_X11_of ml_L_78 rfl (as := [(0, l6), (0, 2)]) rfl rfl rfl rfl rfl rfl ⟨Nat.zero_le _, Nat.zero_le _⟩ dL_isRight_185 (fun x63 g64 h62 e hw => ?_)
    replace hw := hw h62 e
    clear e
    refine V.aloadC_n hc hG.o1.rf dL_isRight_188 rfl rfl ?_
    refine V.iload hc dL_isRight_189 rfl ?_
    refine V.bipush hc dL_isRight_191 (by decide) ?_
    refine V.callOI hc hG.o1 (qX11_of _ l _ _ _ _ _ _ hXF hw) mo_X11_of ml_L_78 rfl (as := [(0, l6), (0, 8)]) rfl rfl rfl rfl rfl rfl ⟨Nat.zero_le _, Nat.zero_le _⟩ dL_isRight_193 (fun x66 g67 h65 e hw => ?_)
    replace hw := hw h65 e
    clear e
    obtain ⟨q70, hw⟩ := hw
    have kJ88 : ∀ t69 : Int, ((x66 ≤ 0 → t69 = 0) ∧ (¬ x66 ≤ 0 → t69 = 1)) → V G p l e (rmD 5 0) s m args below meth c (MQ below (QI G P) args s 0 0 (va_Aof G)) 11 204 [(3, 1), (3, 4), (0, l2), (0, l3), (0, l4), (0, l5), (0, l6), (1, 0), (1, 0), (1, 0), (0, l10)] [(0, t69), (0, x63)] h65 0 := by
      intro t69 he
      replace hw := hw t69 he
      clear he
      obtain ⟨g71, hw⟩ := hw
      obtain ⟨g72, hw⟩ := hw
      refine V.icmp_ne hc (tgt := 237) dL_isRight_204 (by decide) g71 g72 (fun c73 => ?_) (fun c73 => ?_)
      · replace hw := hw.1 c73
        refine V.drop (lo' := [(1, 0), (1, 0), (1, 0), (1, 0), (1, 0), (1, 0), (1, 0), (1, 0), (1, 0), (1, 0), (1, 0)]) ⟨Or.inl rfl, Or.inl rfl, Or.inl rfl, Or.inl rfl, Or.inl rfl, Or.inl rfl, Or.inl rfl, Or.inr rfl, Or.inr rfl, Or.inr rfl, Or.inl rfl, trivial⟩ ?_
        exact hK237 _ hw
      · replace hw := hw.2 c73
        refine V.aloadC_n hc hG.o1.rf dL_isRight_207 rfl rfl ?_
        refine V.iload hc dL_isRight_208 rfl ?_
        refine V.bipush hc dL_isRight_210 (by decide) ?_
        refine V.callOI hc hG.o1 (qX11_of _ l _ _ _ _ _ _ hXF hw) mo_X11_of ml_L_78 rfl (as := [(0, l6), (0, 8)]) rfl rfl rfl rfl rfl rfl ⟨Nat.zero_le _, Nat.zero_le _⟩ dL_isRight_212 (fun x75 g76 h74 e hw => ?_)
        replace hw := hw h74 e
        clear e
        refine V.bipush hc dL_isRight_215 (by decide) ?_
        obtain ⟨g77, hw⟩ := hw
        refine V.icmp_gt hc (tgt := 237) dL_isRight_217 (by decide) g77 (by omega) (fun c78 => ?_) (fun c78 => ?_)
        · replace hw := hw.1 c78
          refine V.drop (lo' := [(1, 0), (1, 0), (1, 0), (1, 0), (1, 0), (1, 0), (1, 0), (1, 0), (1, 0), (1, 0), (1, 0)]) ⟨Or.inl rfl, Or.inl rfl, Or.inl rfl, Or.inl rfl, Or.inl rfl, Or.inl rfl, Or.inl rfl, Or.inr rfl, Or.inr rfl, Or.inr rfl, Or.inl rfl, trivial⟩ ?_
          exact hK237 _ hw
        · replace hw := hw.2 c78
          refine V.aloadC_n hc hG.o1.rf dL_isRight_220 rfl rfl ?_
          refine V.iload hc dL_isRight_221 rfl ?_
          refine V.iconst hc dL_isRight_223 ?_
          refine V.callOI hc hG.o1 (qX11_of _ l _ _ _ _ _ _ hXF hw) mo_X11_of ml_L_78 rfl (as := [(0, l6), (0, 4)]) rfl rfl rfl rfl rfl rfl ⟨Nat.zero_le _, Nat.zero_le _⟩ dL_isRight_224 (fun x80 g81 h79 e hw => ?_)
          replace hw := hw h79 e
          clear e
          refine V.aloadC_n hc hG.o1.rf dL_isRight_227 rfl rfl ?_
          refine V.iload hc dL_isRight_228 rfl ?_
          refine V.iconst hc dL_isRight_230 ?_
          refine V.callOI hc hG.o1 (qX11_of _ l _ _ _ _ _ _ hXF hw) mo_X11_of ml_L_78 rfl (as := [(0, l6), (0, 3)]) rfl rfl rfl rfl rfl rfl ⟨Nat.zero_le _, Nat.zero_le _⟩ dL_isRight_231 (fun x83 g84 h82 e hw => ?_)
          replace hw := hw h82 e
          clear e
          obtain ⟨g85, hw⟩ := hw
          obtain ⟨g86, hw⟩ := hw
          refine V.icmp_le hc (tgt := 239) dL_isRight_234 (by decide) g85 g86 (fun c87 => ?_) (fun c87 => ?_)
          · replace hw := hw.1 c87
            exact tL_isRight_239 hc hr hG (fun y2 y3 y4 y5 y6 hy hw => by exact hK13 _ _ _ _ _ _ hw) (fun hy hw => by exact hK328 _ hw) hw
          · replace hw := hw.2 c87
            refine V.drop (lo' := [(1, 0), (1, 0), (1, 0), (1, 0), (1, 0), (1, 0), (1, 0), (1, 0), (1, 0), (1, 0), (1, 0)]) ⟨Or.inl rfl, Or.inl rfl, Or.inl rfl, Or.inl rfl, Or.inl rfl, Or.inl rfl, Or.inl rfl, Or.inr rfl, Or.inr rfl, Or.inr rfl, Or.inl rfl, trivial⟩ ?_
            exact hK237 _ hw
    have g68 := q70
    refine V.if_le hc (tgt := 203) dL_isRight_196 (by decide) g68 (fun c89 => ?_) (fun c89 => ?_)
    · refine V.iconst hc dL_isRight_203 ?_
      exact kJ88 _ ⟨fun _ => rfl, (fun q => absurd c89 q)⟩
    · refine V.iconst hc dL_isRight_199 ?_
      refine V.goto hc (tgt := 204) dL_isRight_200 (by decide) ?_
      exact kJ88 _ ⟨(fun q => absurd q c89), fun _ => rfl⟩
theorem tL_isRight_13 {G : GG} {p : Program} {l : Launch} {e : Jvm.Env} {s : State} {m : MethodId} {args : Array Value} {below : List Frame} {meth : Method} {c : Code} {P : Int → HP → Prop} (hc : VC G p (rmD 5 0) s m args meth c RL cL_isRight 11 5) (hr : meth.sig.returnType = some .boolean) (hG : LG G) {K336 : Int → Int → Int → Int → HP → Prop} {K174 : HP → Prop} {K237 : HP → Prop} {K328 : HP → Prop} (hK336 : ∀ (x2 : Int) (x3 : Int) (x4 : Int) (x5 : Int) (h : HP), K336 x2 x3 x4 x5 h → V G p l e (rmD 5 0) s m args below meth c (MQ below (QI G P) args s 0 0 (va_Aof G)) 11 336 [(3, 1), (1, 0), (0, x2), (0, x3), (0, x4), (0, x5), (1, 0), (1, 0), (1, 0), (1, 0), (1, 0)] [] h 0) (hK174 : ∀  (h : HP), K174  h → V G p l e (rmD 5 0) s m args below meth c (MQ below (QI G P) args s 0 0 (va_Aof G)) 11 174 [(1, 0), (1, 0), (1, 0), (1, 0), (1, 0), (1, 0), (1, 0), (1, 0), (1, 0), (1, 0), (1, 0)] [] h 0) (hK237 : ∀  (h : HP), K237  h → V G p l e (rmD 5 0) s m args below meth c (MQ below (QI G P) args s 0 0 (va_Aof G)) 11 237 [(1, 0), (1, 0), (1, 0), (1, 0), (1, 0), (1, 0), (1, 0), (1, 0), (1, 0), (1, 0), (1, 0)] [] h 0) (hK328 : ∀  (h : HP), K328  h → V G p l e (rmD 5 0) s m args below meth c (MQ below (QI G P) args s 0 0 (va_Aof G)) 11 328 [(1, 0), (1, 0), (1, 0), (1, 0), (1, 0), (1, 0), (1, 0), (1, 0), (1, 0), (1, 0), (1, 0)] [] h 0) : ∀ (f : Nat) (l2 : Int) (l3 : Int) (l4 : Int) (l5 : Int) (l6 : Int) (h : HP), wL_isRight_13 G K336 K174 K237 K328 f l2 l3 l4 l5 l6 h → V G p l e (rmD 5 0) s m args below meth c (MQ below (QI G P) args s 0 0 (va_Aof G)) 11 13 [(3, 1), (3, 4), (0, l2), (0, l3), (0, l4), (0, l5), (0, l6), (1, 0), (1, 0), (1, 0), (1, 0)] [] h 0 := by
  intro f
  induction f with
  | zero =>
    intro l2 l3 l4 l5 l6 h hw
    exact hw.elim
  | succ f ih =>
    intro l2 l3 l4 l5 l6 h hw
    refine V.iload hc dL_isRight_13 rfl ?_
    refine V.aloadC_n hc hG.e4.rf dL_isRight_15 rfl rfl ?_
    refine V.laln (ln := (npI G)) hc hG.e4 (by decide) rfl dL_isRight_16 ?_
    obtain ⟨g1, hw⟩ := hw
    obtain ⟨g2, hw⟩ := hw
    refine V.icmp_ge hc (tgt := 336) dL_isRight_17 (by decide) g1 g2 (fun c3 => ?_) (fun c3 => ?_)
    · replace hw := hw.1 c3
      refine V.drop (lo' := [(3, 1), (1, 0), (0, l2), (0, l3), (0, l4), (0, l5), (1, 0), (1, 0), (1, 0), (1, 0), (1, 0)]) ⟨Or.inr rfl, Or.inl rfl, Or.inr rfl, Or.inr rfl, Or.inr rfl, Or.inr rfl, Or.inl rfl, Or.inr rfl, Or.inr rfl, Or.inr rfl, Or.inr rfl, trivial⟩ ?_
      exact hK336 _ _ _ _ _ hw
    · replace hw := hw.2 c3
      refine V.iconst hc dL_isRight_20 ?_
      refine V.istore hc dL_isRight_21 rfl (lo' := [(3, 1), (3, 4), (0, l2), (0, l3), (0, l4), (0, l5), (0, l6), (0, 0), (1, 0), (1, 0), (1, 0)]) rfl ?_
      refine V.iconst hc dL_isRight_23 ?_
      refine V.istore hc dL_isRight_24 rfl (lo' := [(3, 1), (3, 4), (0, l2), (0, l3), (0, l4), (0, l5), (0, l6), (0, 0), (0, 0), (1, 0), (1, 0)]) rfl ?_
      refine V.iconst hc dL_isRight_26 ?_
      refine V.istore hc dL_isRight_27 rfl (lo' := [(3, 1), (3, 4), (0, l2), (0, l3), (0, l4), (0, l5), (0, l6), (0, 0), (0, 0), (0, 0), (1, 0)]) rfl ?_
      refine V.iconst hc dL_isRight_29 ?_
      refine V.istore hc dL_isRight_30 rfl (lo' := [(3, 1), (3, 4), (0, l2), (0, l3), (0, l4), (0, l5), (0, l6), (0, 0), (0, 0), (0, 0), (0, 0)]) rfl ?_
      obtain ⟨f22, hw⟩ := hw
      refine tL_isRight_32 hc hr hG ?_ f22 _ _ _ _ _ hw
      · intro l23 l24 l25 h26 hw
        refine V.aloadC_n hc hG.e4.rf dL_isRight_95 rfl rfl ?_
        refine V.iload hc dL_isRight_96 rfl ?_
        refine V.callSI hc (qL_isLeaf G l hG.e4 _ _ _ hw) mo_L_isLeaf ml_L_34 (as := [(3, 4), (0, l6)]) rfl rfl rfl rfl rfl ⟨Nat.zero_le _, Nat.zero_le _⟩ dL_isRight_98 (fun x28 h27 hw => ?_)
        refine V.istore hc dL_isRight_101 rfl (lo' := [(3, 1), (3, 4), (0, l2), (0, l3), (0, l4), (0, l5), (0, l6), (0, l23), (0, l24), (0, l25), (0, x28)]) rfl ?_
        refine V.iload hc dL_isRight_103 rfl ?_
        obtain ⟨g29, hw⟩ := hw
        refine V.if_ne hc (tgt := 176) dL_isRight_105 (by decide) g29 (fun c30 => ?_) (fun c30 => ?_)
        · replace hw := hw.1 c30
          refine V.drop (lo' := [(3, 1), (3, 4), (0, l2), (0, l3), (0, l4), (0, l5), (0, l6), (1, 0), (1, 0), (1, 0), (0, x28)]) ⟨Or.inr rfl, Or.inr rfl, Or.inr rfl, Or.inr rfl, Or.inr rfl, Or.inr rfl, Or.inr rfl, Or.inl rfl, Or.inl rfl, Or.inl rfl, Or.inr rfl, trivial⟩ ?_
          exact tL_isRight_176 hc hr hG (fun y2 y3 y4 y5 y6 hy hw => by exact ih _ _ _ _ _ _ hw) (fun hy hw => by exact hK237 _ hw) (fun hy hw => by exact hK328 _ hw) hw
        · replace hw := hw.2 c30
          refine V.aloadC_n hc hG.o1.rf dL_isRight_108 rfl rfl ?_
          refine V.iload hc dL_isRight_109 rfl ?_
          refine V.iconst hc dL_isRight_111 ?_
          refine V.callOI hc hG.o1 (qX11_of _ l _ _ _ _ _ _ hXF hw) mo_X11_of ml_L_78 rfl (as := [(0, l6), (0, 3)]) rfl rfl rfl rfl rfl rfl ⟨Nat.zero_le _, Nat.zero_le _⟩ dL_isRight_112 (fun x91 g92 h90 e hw => ?_)
          replace hw := hw h90 e
          clear e
          refine V.iload hc dL_isRight_115 rfl ?_
          obtain ⟨g93, hw⟩ := hw
          obtain ⟨g94, hw⟩ := hw
          refine V.icmp_ne hc (tgt := 174) dL_isRight_117 (by decide) g93 g94 (fun c95 => ?_) (fun c95 => ?_)
          · replace hw := hw.1 c95
            refine V.drop (lo' := [(1, 0), (1, 0), (1, 0), (1, 0), (1, 0), (1, 0), (1, 0), (1, 0), (1, 0), (1, 0), (1, 0)]) ⟨Or.inl rfl, Or.inl rfl, Or.inl rfl, Or.inl rfl, Or.inl rfl, Or.inl rfl, Or.inl rfl, Or.inl rfl, Or.inl rfl, Or.inl rfl, Or.inl rfl, trivial⟩ ?_
            exact hK174 _ hw
          · replace hw := hw.2 c95
            refine V.aloadC_n hc hG.o1.rf dL_isRight_120 rfl rfl ?_
            refine V.iload hc dL_isRight_121 rfl ?_
            refine V.iconst hc dL_isRight_123 ?_
            refine V.callOI hc hG.o1 (qX11_of _ l _ _ _ _ _ _ hXF hw) mo_X11_of ml_L_78 rfl (as := [(0, l6), (0, 2)]) rfl rfl rfl rfl rfl rfl ⟨Nat.zero_le _, Nat.zero_le _⟩ dL_isRight_124 (fun x97 g98 h96 e hw => ?_)
            replace hw := hw h96 e
            clear e
            refine V.iload hc dL_isRight_127 rfl ?_
            obtain ⟨q101, hw⟩ := hw
            have kJ121 : ∀ t100 : Int, ((l24 ≤ 0 → t100 = 0) ∧ (¬ l24 ≤ 0 → t100 = 1)) → V G p l e (rmD 5 0) s m args below meth c (MQ below (QI G P) args s 0 0 (va_Aof G)) 11 137 [(3, 1), (3, 4), (0, l2), (0, l3), (0, l4), (0, l5), (0, l6), (1, 0), (1, 0), (0, l25), (0, x28)] [(0, t100), (0, x97)] h96 0 := by
              intro t100 he
              replace hw := hw t100 he
              clear he
              obtain ⟨g102, hw⟩ := hw
              obtain ⟨g103, hw⟩ := hw
              refine V.icmp_ne hc (tgt := 174) dL_isRight_137 (by decide) g102 g103 (fun c104 => ?_) (fun c104 => ?_)
              · replace hw := hw.1 c104
                refine V.drop (lo' := [(1, 0), (1, 0), (1, 0), (1, 0), (1, 0), (1, 0), (1, 0), (1, 0), (1, 0), (1, 0), (1, 0)]) ⟨Or.inl rfl, Or.inl rfl, Or.inl rfl, Or.inl rfl, Or.inl rfl, Or.inl rfl, Or.inl rfl, Or.inr rfl, Or.inr rfl, Or.inl rfl, Or.inl rfl, trivial⟩ ?_
                exact hK174 _ hw
              · replace hw := hw.2 c104
                refine V.aloadC_n hc hG.o1.rf dL_isRight_140 rfl rfl ?_
                refine V.iload hc dL_isRight_141 rfl ?_
                refine V.bipush hc dL_isRight_143 (by decide) ?_
                refine V.callOI hc hG.o1 (qX11_of _ l _ _ _ _ _ _ hXF hw) mo_X11_of ml_L_78 rfl (as := [(0, l6), (0, 6)]) rfl rfl rfl rfl rfl rfl ⟨Nat.zero_le _, Nat.zero_le _⟩ dL_isRight_145 (fun x106 g107 h105 e hw => ?_)
                replace hw := hw h105 e
                clear e
                refine V.iload hc dL_isRight_148 rfl ?_
                obtain ⟨g108, hw⟩ := hw
                obtain ⟨g109, hw⟩ := hw
                refine V.icmp_lt hc (tgt := 174) dL_isRight_150 (by decide) g108 g109 (fun c110 => ?_) (fun c110 => ?_)
                · replace hw := hw.1 c110
                  refine V.drop (lo' := [(1, 0), (1, 0), (1, 0), (1, 0), (1, 0), (1, 0), (1, 0), (1, 0), (1, 0), (1, 0), (1, 0)]) ⟨Or.inl rfl, Or.inl rfl, Or.inl rfl, Or.inl rfl, Or.inl rfl, Or.inl rfl, Or.inl rfl, Or.inr rfl, Or.inr rfl, Or.inl rfl, Or.inl rfl, trivial⟩ ?_
                  exact hK174 _ hw
                · replace hw := hw.2 c110
                  refine V.aloadC_n hc hG.o1.rf dL_isRight_153 rfl rfl ?_
                  refine V.iload hc dL_isRight_154 rfl ?_
                  refine V.bipush hc dL_isRight_156 (by decide) ?_
                  refine V.callOI hc hG.o1 (qX11_of _ l _ _ _ _ _ _ hXF hw) mo_X11_of ml_L_78 rfl (as := [(0, l6), (0, 8)]) rfl rfl rfl rfl rfl rfl ⟨Nat.zero_le _, Nat.zero_le _⟩ dL_isRight_158 (fun x112 g113 h111 e hw => ?_)
                  replace hw := hw h111 e
                  clear e
                  obtain ⟨g114, hw⟩ := hw
                  refine V.if_ne hc (tgt := 174) dL_isRight_161 (by decide) g114 (fun c115 => ?_) (fun c115 => ?_)
                  · replace hw := hw.1 c115
                    refine V.drop (lo' := [(1, 0), (1, 0), (1, 0), (1, 0), (1, 0), (1, 0), (1, 0), (1, 0), (1, 0), (1, 0), (1, 0)]) ⟨Or.inl rfl, Or.inl rfl, Or.inl rfl, Or.inl rfl, Or.inl rfl, Or.inl rfl, Or.inl rfl, Or.inr rfl, Or.inr rfl, Or.inl rfl, Or.inl rfl, trivial⟩ ?_
                    exact hK174 _ hw
                  · replace hw := hw.2 c115
                    refine V.aloadC_n hc hG.o1.rf dL_isRight_164 rfl rfl ?_
                    refine V.iload hc dL_isRight_165 rfl ?_
                    refine V.iconst hc dL_isRight_167 ?_
                    refine V.callOI hc hG.o1 (qX11_of _ l _ _ _ _ _ _ hXF hw) mo_X11_of ml_L_78 rfl (as := [(0, l6), (0, 4)]) rfl rfl rfl rfl rfl rfl ⟨Nat.zero_le _, Nat.zero_le _⟩ dL_isRight_168 (fun x117 g118 h116 e hw => ?_)
                    replace hw := hw h116 e
                    clear e
                    obtain ⟨g119, hw⟩ := hw
                    refine V.if_eq hc (tgt := 176) dL_isRight_171 (by decide) g119 (fun c120 => ?_) (fun c120 => ?_)
                    · replace hw := hw.1 c120
                      refine V.drop (lo' := [(3, 1), (3, 4), (0, l2), (0, l3), (0, l4), (0, l5), (0, l6), (1, 0), (1, 0), (1, 0), (0, x28)]) ⟨Or.inr rfl, Or.inr rfl, Or.inr rfl, Or.inr rfl, Or.inr rfl, Or.inr rfl, Or.inr rfl, Or.inr rfl, Or.inr rfl, Or.inl rfl, Or.inr rfl, trivial⟩ ?_
                      exact tL_isRight_176 hc hr hG (fun y2 y3 y4 y5 y6 hy hw => by exact ih _ _ _ _ _ _ hw) (fun hy hw => by exact hK237 _ hw) (fun hy hw => by exact hK328 _ hw) hw
                    · replace hw := hw.2 c120
                      refine V.drop (lo' := [(1, 0), (1, 0), (1, 0), (1, 0), (1, 0), (1, 0), (1, 0), (1, 0), (1, 0), (1, 0), (1, 0)]) ⟨Or.inl rfl, Or.inl rfl, Or.inl rfl, Or.inl rfl, Or.inl rfl, Or.inl rfl, Or.inl rfl, Or.inr rfl, Or.inr rfl, Or.inl rfl, Or.inl rfl, trivial⟩ ?_
                      exact hK174 _ hw
            have g99 := q101
            refine V.if_le hc (tgt := 136) dL_isRight_129 (by decide) g99 (fun c122 => ?_) (fun c122 => ?_)
            · refine V.iconst hc dL_isRight_136 ?_
              refine V.drop (lo' := [(3, 1), (3, 4), (0, l2), (0, l3), (0, l4), (0, l5), (0, l6), (1, 0), (1, 0), (0, l25), (0, x28)]) ⟨Or.inr rfl, Or.inr rfl, Or.inr rfl, Or.inr rfl, Or.inr rfl, Or.inr rfl, Or.inr rfl, Or.inl rfl, Or.inl rfl, Or.inr rfl, Or.inr rfl, trivial⟩ ?_
              exact kJ121 _ ⟨fun _ => rfl, (fun q => absurd c122 q)⟩
            · refine V.iconst hc dL_isRight_132 ?_
              refine V.goto hc (tgt := 137) dL_isRight_133 (by decide) ?_
              refine V.drop (lo' := [(3, 1), (3, 4), (0, l2), (0, l3), (0, l4), (0, l5), (0, l6), (1, 0), (1, 0), (0, l25), (0, x28)]) ⟨Or.inr rfl, Or.inr rfl, Or.inr rfl, Or.inr rfl, Or.inr rfl, Or.inr rfl, Or.inr rfl, Or.inl rfl, Or.inl rfl, Or.inr rfl, Or.inr rfl, trivial⟩ ?_
              exact kJ121 _ ⟨(fun q => absurd q c122), fun _ => rfl⟩
theorem qL_isRight (G : GG) (l : Launch) (hG : LG G) (h : HP) (P : Int → HP → Prop) (hw : wL_isRight G  h P) : CnI l G yL_isRight cL_isRight 11 (some .boolean) 5 [(3, 1), (3, 4)] h P := by
  refine CnI.of (lo := [(3, 1), (3, 4), (1, 0), (1, 0), (1, 0), (1, 0), (1, 0), (1, 0), (1, 0), (1, 0), (1, 0)]) (by decide) rfl rfl rfl ?_
  intro p e s m args below meth c hc hr
  have hc : VC G p (rmD 5 0) s m args meth c RL cL_isRight 11 5 := hc
  refine V.iconst hc dL_isRight_0 ?_
  refine V.istore_n hc dL_isRight_1 rfl rfl (lo' := [(3, 1), (3, 4), (0, 0), (1, 0), (1, 0), (1, 0), (1, 0), (1, 0), (1, 0), (1, 0), (1, 0)]) rfl ?_
  refine V.iconst hc dL_isRight_2 ?_
  refine V.istore_n hc dL_isRight_3 rfl rfl (lo' := [(3, 1), (3, 4), (0, 0), (0, 0), (1, 0), (1, 0), (1, 0), (1, 0), (1, 0), (1, 0), (1, 0)]) rfl ?_
  refine V.iconst hc dL_isRight_4 ?_
  refine V.istore hc dL_isRight_5 rfl (lo' := [(3, 1), (3, 4), (0, 0), (0, 0), (0, 0), (1, 0), (1, 0), (1, 0), (1, 0), (1, 0), (1, 0)]) rfl ?_
  refine V.iconst hc dL_isRight_7 ?_
  refine V.istore hc dL_isRight_8 rfl (lo' := [(3, 1), (3, 4), (0, 0), (0, 0), (0, 0), (0, 0), (1, 0), (1, 0), (1, 0), (1, 0), (1, 0)]) rfl ?_
  refine V.iconst hc dL_isRight_10 ?_
  refine V.istore hc dL_isRight_11 rfl (lo' := [(3, 1), (3, 4), (0, 0), (0, 0), (0, 0), (0, 0), (0, 0), (1, 0), (1, 0), (1, 0), (1, 0)]) rfl ?_
  obtain ⟨f123, hw⟩ := hw
  refine tL_isRight_13 hc hr hG ?_ ?_ ?_ ?_ f123 _ _ _ _ _ _ hw
  · intro l124 l125 l126 l127 h128 hw
    refine V.aloadC_n hc hG.o1.rf dL_isRight_336 rfl rfl ?_
    refine V.iconst hc dL_isRight_337 ?_
    refine V.callOI hc hG.o1 (qX11_count _ l _ _ _ _ _ hXF hw) mo_X11_count ml_L_75 rfl (as := [(0, 4)]) rfl rfl rfl rfl rfl rfl ⟨Nat.zero_le _, Nat.zero_le _⟩ dL_isRight_338 (fun x130 g131 h129 e hw => ?_)
    replace hw := hw h129 e
    clear e
    refine V.iload hc dL_isRight_341 rfl ?_
    obtain ⟨g132, hw⟩ := hw
    obtain ⟨g133, hw⟩ := hw
    refine V.icmp_ne hc (tgt := 418) dL_isRight_343 (by decide) g132 g133 (fun c134 => ?_) (fun c134 => ?_)
    · replace hw := hw.1 c134
      refine V.iconst hc dL_isRight_418 ?_
      exact V.zret hc hr dL_isRight_419 (by omega) hw
    · replace hw := hw.2 c134
      refine V.aloadC_n hc hG.o1.rf dL_isRight_346 rfl rfl ?_
      refine V.iconst hc dL_isRight_347 ?_
      refine V.callOI hc hG.o1 (qX11_count _ l _ _ _ _ _ hXF hw) mo_X11_count ml_L_75 rfl (as := [(0, 5)]) rfl rfl rfl rfl rfl rfl ⟨Nat.zero_le _, Nat.zero_le _⟩ dL_isRight_348 (fun x136 g137 h135 e hw => ?_)
      replace hw := hw h135 e
      clear e
      refine V.iload_n hc dL_isRight_351 rfl rfl ?_
      obtain ⟨g138, hw⟩ := hw
      obtain ⟨g139, hw⟩ := hw
      refine V.icmp_ne hc (tgt := 418) dL_isRight_352 (by decide) g138 g139 (fun c140 => ?_) (fun c140 => ?_)
      · replace hw := hw.1 c140
        refine V.iconst hc dL_isRight_418 ?_
        exact V.zret hc hr dL_isRight_419 (by omega) hw
      · replace hw := hw.2 c140
        refine V.aloadC_n hc hG.o1.rf dL_isRight_355 rfl rfl ?_
        refine V.bipush hc dL_isRight_356 (by decide) ?_
        refine V.callOI hc hG.o1 (qX11_count _ l _ _ _ _ _ hXF hw) mo_X11_count ml_L_75 rfl (as := [(0, 8)]) rfl rfl rfl rfl rfl rfl ⟨Nat.zero_le _, Nat.zero_le _⟩ dL_isRight_358 (fun x142 g143 h141 e hw => ?_)
        replace hw := hw h141 e
        clear e
        refine V.iload_n hc dL_isRight_361 rfl rfl ?_
        obtain ⟨g144, hw⟩ := hw
        obtain ⟨g145, hw⟩ := hw
        refine V.icmp_ne hc (tgt := 418) dL_isRight_362 (by decide) g144 g145 (fun c146 => ?_) (fun c146 => ?_)
        · replace hw := hw.1 c146
          refine V.iconst hc dL_isRight_418 ?_
          exact V.zret hc hr dL_isRight_419 (by omega) hw
        · replace hw := hw.2 c146
          refine V.aloadC_n hc hG.o1.rf dL_isRight_365 rfl rfl ?_
          refine V.bipush hc dL_isRight_366 (by decide) ?_
          refine V.callOI hc hG.o1 (qX11_count _ l _ _ _ _ _ hXF hw) mo_X11_count ml_L_75 rfl (as := [(0, 10)]) rfl rfl rfl rfl rfl rfl ⟨Nat.zero_le _, Nat.zero_le _⟩ dL_isRight_368 (fun x148 g149 h147 e hw => ?_)
          replace hw := hw h147 e
          clear e
          refine V.iload hc dL_isRight_371 rfl ?_
          obtain ⟨g150, hw⟩ := hw
          obtain ⟨g151, hw⟩ := hw
          refine V.icmp_ne hc (tgt := 418) dL_isRight_373 (by decide) g150 g151 (fun c152 => ?_) (fun c152 => ?_)
          · replace hw := hw.1 c152
            refine V.iconst hc dL_isRight_418 ?_
            exact V.zret hc hr dL_isRight_419 (by omega) hw
          · replace hw := hw.2 c152
            refine V.iload hc dL_isRight_376 rfl ?_
            refine V.aloadC_n hc hG.o1.rf dL_isRight_378 rfl rfl ?_
            refine V.iconst hc dL_isRight_379 ?_
            refine V.callOI hc hG.o1 (qX11_count _ l _ _ _ _ _ hXF hw) mo_X11_count ml_L_75 rfl (as := [(0, 2)]) rfl rfl rfl rfl rfl rfl ⟨Nat.zero_le _, Nat.zero_le _⟩ dL_isRight_380 (fun x154 g155 h153 e hw => ?_)
            replace hw := hw h153 e
            clear e
            refine V.bipush hc dL_isRight_383 (by decide) ?_
            refine V.iadd hc dL_isRight_385 ?_
            obtain ⟨g156, hw⟩ := hw
            obtain ⟨g157, hw⟩ := hw
            refine V.icmp_gt hc (tgt := 418) dL_isRight_386 (by decide) g156 g157 (fun c158 => ?_) (fun c158 => ?_)
            · replace hw := hw.1 c158
              refine V.iconst hc dL_isRight_418 ?_
              exact V.zret hc hr dL_isRight_419 (by omega) hw
            · replace hw := hw.2 c158
              refine V.aloadC_n hc hG.o1.rf dL_isRight_389 rfl rfl ?_
              refine V.bipush hc dL_isRight_390 (by decide) ?_
              refine V.callOI hc hG.o1 (qX11_count _ l _ _ _ _ _ hXF hw) mo_X11_count ml_L_75 rfl (as := [(0, 7)]) rfl rfl rfl rfl rfl rfl ⟨Nat.zero_le _, Nat.zero_le _⟩ dL_isRight_392 (fun x160 g161 h159 e hw => ?_)
              replace hw := hw h159 e
              clear e
              refine V.aloadC_n hc hG.o1.rf dL_isRight_395 rfl rfl ?_
              refine V.bipush hc dL_isRight_396 (by decide) ?_
              refine V.callOI hc hG.o1 (qX11_count _ l _ _ _ _ _ hXF hw) mo_X11_count ml_L_75 rfl (as := [(0, 6)]) rfl rfl rfl rfl rfl rfl ⟨Nat.zero_le _, Nat.zero_le _⟩ dL_isRight_398 (fun x163 g164 h162 e hw => ?_)
              replace hw := hw h162 e
              clear e
              obtain ⟨g165, hw⟩ := hw
              obtain ⟨g166, hw⟩ := hw
              refine V.icmp_gt hc (tgt := 418) dL_isRight_401 (by decide) g165 g166 (fun c167 => ?_) (fun c167 => ?_)
              · replace hw := hw.1 c167
                refine V.iconst hc dL_isRight_418 ?_
                exact V.zret hc hr dL_isRight_419 (by omega) hw
              · replace hw := hw.2 c167
                refine V.aloadC_n hc hG.o1.rf dL_isRight_404 rfl rfl ?_
                refine V.iconst hc dL_isRight_405 ?_
                refine V.callOI hc hG.o1 (qX11_count _ l _ _ _ _ _ hXF hw) mo_X11_count ml_L_75 rfl (as := [(0, 3)]) rfl rfl rfl rfl rfl rfl ⟨Nat.zero_le _, Nat.zero_le _⟩ dL_isRight_406 (fun x169 g170 h168 e hw => ?_)
                replace hw := hw h168 e
                clear e
                refine V.bipush hc dL_isRight_409 (by decide) ?_
                obtain ⟨g171, hw⟩ := hw
                refine V.icmp_ge hc (tgt := 418) dL_isRight_411 (by decide) g171 (by omega) (fun c172 => ?_) (fun c172 => ?_)
                · replace hw := hw.1 c172
                  refine V.iconst hc dL_isRight_418 ?_
                  exact V.zret hc hr dL_isRight_419 (by omega) hw
                · replace hw := hw.2 c172
                  refine V.iconst hc dL_isRight_414 ?_
                  refine V.goto hc (tgt := 419) dL_isRight_415 (by decide) ?_
                  exact V.zret hc hr dL_isRight_419 (by omega) hw
  · intro h173 hw
    refine V.iconst hc dL_isRight_174 ?_
    exact V.zret hc hr dL_isRight_175 (by omega) hw
  · intro h174 hw
    refine V.iconst hc dL_isRight_237 ?_
    exact V.zret hc hr dL_isRight_238 (by omega) hw
  · intro h175 hw
    refine V.iconst hc dL_isRight_328 ?_
    exact V.zret hc hr dL_isRight_329 (by omega) hw
theorem tL_isChosen_97 {G : GG} {p : Program} {l : Launch} {e : Jvm.Env} {s : State} {m : MethodId} {args : Array Value} {below : List Frame} {meth : Method} {c : Code} {P : Int → HP → Prop} (hc : VC G p (rmD 7 0) s m args meth c RL cL_isChosen 7 7) (hr : meth.sig.returnType = some .boolean) (hG : LG G) {l3 : Int} {l4 : Int} {h : HP} {K29 : Int → Int → HP → Prop} (hK29 : ∀ (x3 : Int) (x4 : Int) (h : HP), K29 x3 x4 h → V G p l e (rmD 7 0) s m args below meth c (MQ below (QI G P) args s 0 0 (va_Aof G)) 7 29 [(3, 1), (3, 4), (3, 5), (0, x3), (0, x4), (1, 0), (1, 0)] [] h 0) (hw : wL_isChosen_97 G l3 l4 K29 h) : V G p l e (rmD 7 0) s m args below meth c (MQ below (QI G P) args s 0 0 (va_Aof G)) 7 97 [(3, 1), (3, 4), (3, 5), (0, l3), (0, l4), (1, 0), (1, 0)] [] h 0 := by
  refine V.iinc hc dL_isChosen_97 rfl rfl (lo' := [(3, 1), (3, 4), (3, 5), (0, l3), (0, l4 + 1), (1, 0), (1, 0)]) rfl ?_
  refine V.goto hc (tgt := 29) dL_isChosen_100 (by decide) ?_
  exact hK29 _ _ _ hw
theorem tL_isChosen_94 {G : GG} {p : Program} {l : Launch} {e : Jvm.Env} {s : State} {m : MethodId} {args : Array Value} {below : List Frame} {meth : Method} {c : Code} {P : Int → HP → Prop} (hc : VC G p (rmD 7 0) s m args meth c RL cL_isChosen 7 7) (hr : meth.sig.returnType = some .boolean) (hG : LG G) {l4 : Int} {h : HP} {K29 : Int → Int → HP → Prop} (hK29 : ∀ (x3 : Int) (x4 : Int) (h : HP), K29 x3 x4 h → V G p l e (rmD 7 0) s m args below meth c (MQ below (QI G P) args s 0 0 (va_Aof G)) 7 29 [(3, 1), (3, 4), (3, 5), (0, x3), (0, x4), (1, 0), (1, 0)] [] h 0) (hw : wL_isChosen_94 G l4 K29 h) : V G p l e (rmD 7 0) s m args below meth c (MQ below (QI G P) args s 0 0 (va_Aof G)) 7 94 [(3, 1), (3, 4), (3, 5), (1, 0), (0, l4), (1, 0), (1, 0)] [] h 0 := by
  refine V.iload hc dL_isChosen_94 rfl ?_
  refine V.istore_n hc dL_isChosen_96 rfl rfl (lo' := [(3, 1), (3, 4), (3, 5), (0, l4), (0, l4), (1, 0), (1, 0)]) rfl ?_
  exact tL_isChosen_97 hc hr hG (fun y3 y4 hy hw => by exact hK29 _ _ _ hw) hw
theorem tL_isChosen_29 {G : GG} {p : Program} {l : Launch} {e : Jvm.Env} {s : State} {m : MethodId} {args : Array Value} {below : List Frame} {meth : Method} {c : Code} {P : Int → HP → Prop} (hc : VC G p (rmD 7 0) s m args meth c RL cL_isChosen 7 7) (hr : meth.sig.returnType = some .boolean) (hG : LG G) {K103 : Int → HP → Prop} (hK103 : ∀ (x3 : Int) (h : HP), K103 x3 h → V G p l e (rmD 7 0) s m args below meth c (MQ below (QI G P) args s 0 0 (va_Aof G)) 7 103 [(3, 1), (3, 4), (1, 0), (0, x3), (1, 0), (1, 0), (1, 0)] [] h 0) : ∀ (f : Nat) (l3 : Int) (l4 : Int) (h : HP), wL_isChosen_29 G K103 f l3 l4 h → V G p l e (rmD 7 0) s m args below meth c (MQ below (QI G P) args s 0 0 (va_Aof G)) 7 29 [(3, 1), (3, 4), (3, 5), (0, l3), (0, l4), (1, 0), (1, 0)] [] h 0 := by
  intro f
  induction f with
  | zero =>
    intro l3 l4 h hw
    exact hw.elim
  | succ f ih =>
    intro l3 l4 h hw
    refine V.iload hc dL_isChosen_29 rfl ?_
    refine V.aloadC_n hc hG.e4.rf dL_isChosen_31 rfl rfl ?_
    refine V.laln (ln := (npI G)) hc hG.e4 (by decide) rfl dL_isChosen_32 ?_
    obtain ⟨g15, hw⟩ := hw
    obtain ⟨g16, hw⟩ := hw
    refine V.icmp_ge hc (tgt := 103) dL_isChosen_33 (by decide) g15 g16 (fun c17 => ?_) (fun c17 => ?_)
    · replace hw := hw.1 c17
      refine V.drop (lo' := [(3, 1), (3, 4), (1, 0), (0, l3), (1, 0), (1, 0), (1, 0)]) ⟨Or.inr rfl, Or.inr rfl, Or.inl rfl, Or.inr rfl, Or.inl rfl, Or.inr rfl, Or.inr rfl, trivial⟩ ?_
      exact hK103 _ _ hw
    · replace hw := hw.2 c17
      refine V.aloadC_n hc hG.o1.rf dL_isChosen_36 rfl rfl ?_
      refine V.iload hc dL_isChosen_37 rfl ?_
      refine V.bipush hc dL_isChosen_39 (by decide) ?_
      refine V.callOI hc hG.o1 (qX11_of _ l _ _ _ _ _ _ hXF hw) mo_X11_of ml_L_78 rfl (as := [(0, l4), (0, 8)]) rfl rfl rfl rfl rfl rfl ⟨Nat.zero_le _, Nat.zero_le _⟩ dL_isChosen_41 (fun x19 g20 h18 e hw => ?_)
      replace hw := hw h18 e
      clear e
      obtain ⟨g21, hw⟩ := hw
      refine V.if_eq hc (tgt := 97) dL_isChosen_44 (by decide) g21 (fun c22 => ?_) (fun c22 => ?_)
      · replace hw := hw.1 c22
        exact tL_isChosen_97 hc hr hG (fun y3 y4 hy hw => by exact ih _ _ _ hw) hw
      · replace hw := hw.2 c22
        refine V.aloadC_n hc hG.e5.rf dL_isChosen_47 rfl rfl ?_
        refine V.iload hc dL_isChosen_48 rfl ?_
        obtain ⟨g23, hw⟩ := hw
        refine V.laald hc hG.e5 (hG.c g23) g23 dL_isChosen_50 ?_
        refine V.iconst hc dL_isChosen_51 ?_
        obtain ⟨g24, hw⟩ := hw
        refine V.laald2 hc hG.sl (hG.c g24) g24 (by omega) dL_isChosen_52 ?_
        obtain ⟨g25, hw⟩ := hw
        refine V.ifnull hc (tgt := 97) dL_isChosen_53 (by decide) g25 (fun c26 => ?_) (fun c26 => ?_)
        · replace hw := hw.1 c26
          exact tL_isChosen_97 hc hr hG (fun y3 y4 hy hw => by exact ih _ _ _ hw) hw
        · replace hw := hw.2 c26
          refine V.aloadC_n hc hG.o1.rf dL_isChosen_56 rfl rfl ?_
          refine V.iload hc dL_isChosen_57 rfl ?_
          refine V.iconst hc dL_isChosen_59 ?_
          refine V.callOI hc hG.o1 (qX11_due _ l _ _ _ _ _ _ hXF hw) mo_X11_due ml_L_89 rfl (as := [(0, l4), (0, 0)]) rfl rfl rfl rfl rfl rfl ⟨Nat.zero_le _, Nat.zero_le _⟩ dL_isChosen_60 (fun x28 g29 h27 e hw => ?_)
          replace hw := hw h27 e
          clear e
          refine V.aloadC_n hc hG.o1.rf dL_isChosen_63 rfl rfl ?_
          refine V.iconst hc dL_isChosen_64 ?_
          refine V.callOI hc hG.o1 (qX11_count _ l _ _ _ _ _ hXF hw) mo_X11_count ml_L_75 rfl (as := [(0, 2)]) rfl rfl rfl rfl rfl rfl ⟨Nat.zero_le _, Nat.zero_le _⟩ dL_isChosen_65 (fun x31 g32 h30 e hw => ?_)
          replace hw := hw h30 e
          clear e
          obtain ⟨g33, hw⟩ := hw
          obtain ⟨g34, hw⟩ := hw
          refine V.icmp_le hc (tgt := 74) dL_isChosen_68 (by decide) g33 g34 (fun c35 => ?_) (fun c35 => ?_)
          · replace hw := hw.1 c35
            refine V.iload_n hc dL_isChosen_74 rfl rfl ?_
            obtain ⟨g36, hw⟩ := hw
            refine V.if_lt hc (tgt := 94) dL_isChosen_75 (by decide) g36 (fun c37 => ?_) (fun c37 => ?_)
            · replace hw := hw.1 c37
              refine V.drop (lo' := [(3, 1), (3, 4), (3, 5), (1, 0), (0, l4), (1, 0), (1, 0)]) ⟨Or.inr rfl, Or.inr rfl, Or.inr rfl, Or.inl rfl, Or.inr rfl, Or.inr rfl, Or.inr rfl, trivial⟩ ?_
              exact tL_isChosen_94 hc hr hG (fun y3 y4 hy hw => by exact ih _ _ _ hw) hw
            · replace hw := hw.2 c37
              refine V.aloadC_n hc hG.o1.rf dL_isChosen_78 rfl rfl ?_
              refine V.iload hc dL_isChosen_79 rfl ?_
              refine V.iconst hc dL_isChosen_81 ?_
              refine V.callOI hc hG.o1 (qX11_due _ l _ _ _ _ _ _ hXF hw) mo_X11_due ml_L_89 rfl (as := [(0, l4), (0, 1)]) rfl rfl rfl rfl rfl rfl ⟨Nat.zero_le _, Nat.zero_le _⟩ dL_isChosen_82 (fun x39 g40 h38 e hw => ?_)
              replace hw := hw h38 e
              clear e
              refine V.aloadC_n hc hG.o1.rf dL_isChosen_85 rfl rfl ?_
              refine V.iload_n hc dL_isChosen_86 rfl rfl ?_
              refine V.iconst hc dL_isChosen_87 ?_
              refine V.callOI hc hG.o1 (qX11_due _ l _ _ _ _ _ _ hXF hw) mo_X11_due ml_L_89 rfl (as := [(0, l3), (0, 1)]) rfl rfl rfl rfl rfl rfl ⟨Nat.zero_le _, Nat.zero_le _⟩ dL_isChosen_88 (fun x42 g43 h41 e hw => ?_)
              replace hw := hw h41 e
              clear e
              obtain ⟨g44, hw⟩ := hw
              obtain ⟨g45, hw⟩ := hw
              refine V.icmp_ge hc (tgt := 97) dL_isChosen_91 (by decide) g44 g45 (fun c46 => ?_) (fun c46 => ?_)
              · replace hw := hw.1 c46
                exact tL_isChosen_97 hc hr hG (fun y3 y4 hy hw => by exact ih _ _ _ hw) hw
              · replace hw := hw.2 c46
                refine V.drop (lo' := [(3, 1), (3, 4), (3, 5), (1, 0), (0, l4), (1, 0), (1, 0)]) ⟨Or.inr rfl, Or.inr rfl, Or.inr rfl, Or.inl rfl, Or.inr rfl, Or.inr rfl, Or.inr rfl, trivial⟩ ?_
                exact tL_isChosen_94 hc hr hG (fun y3 y4 hy hw => by exact ih _ _ _ hw) hw
          · replace hw := hw.2 c35
            refine V.goto hc (tgt := 97) dL_isChosen_71 (by decide) ?_
            exact tL_isChosen_97 hc hr hG (fun y3 y4 hy hw => by exact ih _ _ _ hw) hw
theorem tL_isChosen_268 {G : GG} {p : Program} {l : Launch} {e : Jvm.Env} {s : State} {m : MethodId} {args : Array Value} {below : List Frame} {meth : Method} {c : Code} {P : Int → HP → Prop} (hc : VC G p (rmD 7 0) s m args meth c RL cL_isChosen 7 7) (hr : meth.sig.returnType = some .boolean) (hG : LG G) {l5 : Int} {l6 : Int} {h : HP} {K181 : Int → HP → Prop} (hK181 : ∀ (x6 : Int) (h : HP), K181 x6 h → V G p l e (rmD 7 0) s m args below meth c (MQ below (QI G P) args s 0 0 (va_Aof G)) 7 181 [(3, 1), (3, 4), (1, 0), (1, 0), (1, 0), (0, l5), (0, x6)] [] h 0) (hw : wL_isChosen_268 G l5 l6 K181 h) : V G p l e (rmD 7 0) s m args below meth c (MQ below (QI G P) args s 0 0 (va_Aof G)) 7 268 [(3, 1), (3, 4), (1, 0), (1, 0), (1, 0), (0, l5), (0, l6)] [] h 0 := by
  refine V.iinc hc dL_isChosen_268 rfl rfl (lo' := [(3, 1), (3, 4), (1, 0), (1, 0), (1, 0), (0, l5), (0, l6 + 1)]) rfl ?_
  refine V.goto hc (tgt := 181) dL_isChosen_271 (by decide) ?_
  exact hK181 _ _ hw
theorem tL_isChosen_181 {G : GG} {p : Program} {l : Launch} {e : Jvm.Env} {s : State} {m : MethodId} {args : Array Value} {below : List Frame} {meth : Method} {c : Code} {P : Int → HP → Prop} (hc : VC G p (rmD 7 0) s m args meth c RL cL_isChosen 7 7) (hr : meth.sig.returnType = some .boolean) (hG : LG G) {l5 : Int} {K274 : HP → Prop} {K266 : HP → Prop} (hK274 : ∀  (h : HP), K274  h → V G p l e (rmD 7 0) s m args below meth c (MQ below (QI G P) args s 0 0 (va_Aof G)) 7 274 [(3, 1), (3, 4), (1, 0), (1, 0), (1, 0), (0, l5), (1, 0)] [] h 0) (hK266 : ∀  (h : HP), K266  h → V G p l e (rmD 7 0) s m args below meth c (MQ below (QI G P) args s 0 0 (va_Aof G)) 7 266 [(1, 0), (1, 0), (1, 0), (1, 0), (1, 0), (1, 0), (1, 0)] [] h 0) : ∀ (f : Nat) (l6 : Int) (h : HP), wL_isChosen_181 G l5 K274 K266 f l6 h → V G p l e (rmD 7 0) s m args below meth c (MQ below (QI G P) args s 0 0 (va_Aof G)) 7 181 [(3, 1), (3, 4), (1, 0), (1, 0), (1, 0), (0, l5), (0, l6)] [] h 0 := by
  intro f
  induction f with
  | zero =>
    intro l6 h hw
    exact hw.elim
  | succ f ih =>
    intro l6 h hw
    refine V.iload hc dL_isChosen_181 rfl ?_
    refine V.aloadC_n hc hG.e4.rf dL_isChosen_183 rfl rfl ?_
    refine V.laln (ln := (npI G)) hc hG.e4 (by decide) rfl dL_isChosen_184 ?_
    obtain ⟨g71, hw⟩ := hw
    obtain ⟨g72, hw⟩ := hw
    refine V.icmp_ge hc (tgt := 274) dL_isChosen_185 (by decide) g71 g72 (fun c73 => ?_) (fun c73 => ?_)
    · replace hw := hw.1 c73
      refine V.drop (lo' := [(3, 1), (3, 4), (1, 0), (1, 0), (1, 0), (0, l5), (1, 0)]) ⟨Or.inr rfl, Or.inr rfl, Or.inr rfl, Or.inr rfl, Or.inr rfl, Or.inr rfl, Or.inl rfl, trivial⟩ ?_
      exact hK274 _ hw
    · replace hw := hw.2 c73
      refine V.aloadC_n hc hG.e4.rf dL_isChosen_188 rfl rfl ?_
      refine V.iload hc dL_isChosen_189 rfl ?_
      obtain ⟨g74, hw⟩ := hw
      refine V.lald (ln := (npI G)) hc hG.e4 (by decide) rfl g74 dL_isChosen_191 ?_
      refine V.aloadC_n hc hG.e4.rf dL_isChosen_192 rfl rfl ?_
      refine V.iload hc dL_isChosen_193 rfl ?_
      obtain ⟨g75, hw⟩ := hw
      refine V.lald (ln := (npI G)) hc hG.e4 (by decide) rfl g75 dL_isChosen_195 ?_
      obtain ⟨g76, hw⟩ := hw
      obtain ⟨g77, hw⟩ := hw
      refine V.icmp_ne hc (tgt := 268) dL_isChosen_196 (by decide) g76 g77 (fun c78 => ?_) (fun c78 => ?_)
      · replace hw := hw.1 c78
        exact tL_isChosen_268 hc hr hG (fun y6 hy hw => by exact ih _ _ hw) hw
      · replace hw := hw.2 c78
        refine V.aloadC_n hc hG.o1.rf dL_isChosen_199 rfl rfl ?_
        refine V.iload hc dL_isChosen_200 rfl ?_
        refine V.iconst hc dL_isChosen_202 ?_
        refine V.callOI hc hG.o1 (qX11_of _ l _ _ _ _ _ _ hXF hw) mo_X11_of ml_L_78 rfl (as := [(0, l6), (0, 2)]) rfl rfl rfl rfl rfl rfl ⟨Nat.zero_le _, Nat.zero_le _⟩ dL_isChosen_203 (fun x80 g81 h79 e hw => ?_)
        replace hw := hw h79 e
        clear e
        refine V.iconst hc dL_isChosen_206 ?_
        obtain ⟨g82, hw⟩ := hw
        refine V.icmp_ne hc (tgt := 268) dL_isChosen_207 (by decide) g82 (by omega) (fun c83 => ?_) (fun c83 => ?_)
        · replace hw := hw.1 c83
          exact tL_isChosen_268 hc hr hG (fun y6 hy hw => by exact ih _ _ hw) hw
        · replace hw := hw.2 c83
          refine V.aloadC_n hc hG.o1.rf dL_isChosen_210 rfl rfl ?_
          refine V.iload hc dL_isChosen_211 rfl ?_
          refine V.iconst hc dL_isChosen_213 ?_
          refine V.callOI hc hG.o1 (qX11_due _ l _ _ _ _ _ _ hXF hw) mo_X11_due ml_L_89 rfl (as := [(0, l6), (0, 2)]) rfl rfl rfl rfl rfl rfl ⟨Nat.zero_le _, Nat.zero_le _⟩ dL_isChosen_214 (fun x85 g86 h84 e hw => ?_)
          replace hw := hw h84 e
          clear e
          refine V.aloadC_n hc hG.o1.rf dL_isChosen_217 rfl rfl ?_
          refine V.iconst hc dL_isChosen_218 ?_
          refine V.callOI hc hG.o1 (qX11_count _ l _ _ _ _ _ hXF hw) mo_X11_count ml_L_75 rfl (as := [(0, 2)]) rfl rfl rfl rfl rfl rfl ⟨Nat.zero_le _, Nat.zero_le _⟩ dL_isChosen_219 (fun x88 g89 h87 e hw => ?_)
          replace hw := hw h87 e
          clear e
          obtain ⟨g90, hw⟩ := hw
          obtain ⟨g91, hw⟩ := hw
          refine V.icmp_gt hc (tgt := 268) dL_isChosen_222 (by decide) g90 g91 (fun c92 => ?_) (fun c92 => ?_)
          · replace hw := hw.1 c92
            exact tL_isChosen_268 hc hr hG (fun y6 hy hw => by exact ih _ _ hw) hw
          · replace hw := hw.2 c92
            refine V.aloadC_n hc hG.o1.rf dL_isChosen_225 rfl rfl ?_
            refine V.iload hc dL_isChosen_226 rfl ?_
            refine V.iconst hc dL_isChosen_228 ?_
            refine V.callOI hc hG.o1 (qX11_of _ l _ _ _ _ _ _ hXF hw) mo_X11_of ml_L_78 rfl (as := [(0, l6), (0, 5)]) rfl rfl rfl rfl rfl rfl ⟨Nat.zero_le _, Nat.zero_le _⟩ dL_isChosen_229 (fun x94 g95 h93 e hw => ?_)
            replace hw := hw h93 e
            clear e
            refine V.aloadC_n hc hG.o1.rf dL_isChosen_232 rfl rfl ?_
            refine V.iload hc dL_isChosen_233 rfl ?_
            refine V.iconst hc dL_isChosen_235 ?_
            refine V.callOI hc hG.o1 (qX11_of _ l _ _ _ _ _ _ hXF hw) mo_X11_of ml_L_78 rfl (as := [(0, l5), (0, 5)]) rfl rfl rfl rfl rfl rfl ⟨Nat.zero_le _, Nat.zero_le _⟩ dL_isChosen_236 (fun x97 g98 h96 e hw => ?_)
            replace hw := hw h96 e
            clear e
            obtain ⟨g99, hw⟩ := hw
            obtain ⟨g100, hw⟩ := hw
            refine V.icmp_lt hc (tgt := 266) dL_isChosen_239 (by decide) g99 g100 (fun c101 => ?_) (fun c101 => ?_)
            · replace hw := hw.1 c101
              refine V.drop (lo' := [(1, 0), (1, 0), (1, 0), (1, 0), (1, 0), (1, 0), (1, 0)]) ⟨Or.inl rfl, Or.inl rfl, Or.inr rfl, Or.inr rfl, Or.inr rfl, Or.inl rfl, Or.inl rfl, trivial⟩ ?_
              exact hK266 _ hw
            · replace hw := hw.2 c101
              refine V.aloadC_n hc hG.o1.rf dL_isChosen_242 rfl rfl ?_
              refine V.iload hc dL_isChosen_243 rfl ?_
              refine V.iconst hc dL_isChosen_245 ?_
              refine V.callOI hc hG.o1 (qX11_of _ l _ _ _ _ _ _ hXF hw) mo_X11_of ml_L_78 rfl (as := [(0, l6), (0, 5)]) rfl rfl rfl rfl rfl rfl ⟨Nat.zero_le _, Nat.zero_le _⟩ dL_isChosen_246 (fun x103 g104 h102 e hw => ?_)
              replace hw := hw h102 e
              clear e
              refine V.aloadC_n hc hG.o1.rf dL_isChosen_249 rfl rfl ?_
              refine V.iload hc dL_isChosen_250 rfl ?_
              refine V.iconst hc dL_isChosen_252 ?_
              refine V.callOI hc hG.o1 (qX11_of _ l _ _ _ _ _ _ hXF hw) mo_X11_of ml_L_78 rfl (as := [(0, l5), (0, 5)]) rfl rfl rfl rfl rfl rfl ⟨Nat.zero_le _, Nat.zero_le _⟩ dL_isChosen_253 (fun x106 g107 h105 e hw => ?_)
              replace hw := hw h105 e
              clear e
              obtain ⟨g108, hw⟩ := hw
              obtain ⟨g109, hw⟩ := hw
              refine V.icmp_ne hc (tgt := 268) dL_isChosen_256 (by decide) g108 g109 (fun c110 => ?_) (fun c110 => ?_)
              · replace hw := hw.1 c110
                exact tL_isChosen_268 hc hr hG (fun y6 hy hw => by exact ih _ _ hw) hw
              · replace hw := hw.2 c110
                refine V.iload hc dL_isChosen_259 rfl ?_
                refine V.iload hc dL_isChosen_261 rfl ?_
                obtain ⟨g111, hw⟩ := hw
                obtain ⟨g112, hw⟩ := hw
                refine V.icmp_ge hc (tgt := 268) dL_isChosen_263 (by decide) g111 g112 (fun c113 => ?_) (fun c113 => ?_)
                · replace hw := hw.1 c113
                  exact tL_isChosen_268 hc hr hG (fun y6 hy hw => by exact ih _ _ hw) hw
                · replace hw := hw.2 c113
                  refine V.drop (lo' := [(1, 0), (1, 0), (1, 0), (1, 0), (1, 0), (1, 0), (1, 0)]) ⟨Or.inl rfl, Or.inl rfl, Or.inr rfl, Or.inr rfl, Or.inr rfl, Or.inl rfl, Or.inl rfl, trivial⟩ ?_
                  exact hK266 _ hw
theorem tL_isChosen_156 {G : GG} {p : Program} {l : Launch} {e : Jvm.Env} {s : State} {m : MethodId} {args : Array Value} {below : List Frame} {meth : Method} {c : Code} {P : Int → HP → Prop} (hc : VC G p (rmD 7 0) s m args meth c RL cL_isChosen 7 7) (hr : meth.sig.returnType = some .boolean) (hG : LG G) {K283 : HP → Prop} {K176 : HP → Prop} {K266 : HP → Prop} (hK283 : ∀  (h : HP), K283  h → V G p l e (rmD 7 0) s m args below meth c (MQ below (QI G P) args s 0 0 (va_Aof G)) 7 283 [(1, 0), (1, 0), (1, 0), (1, 0), (1, 0), (1, 0), (1, 0)] [] h 0) (hK176 : ∀  (h : HP), K176  h → V G p l e (rmD 7 0) s m args below meth c (MQ below (QI G P) args s 0 0 (va_Aof G)) 7 176 [(1, 0), (1, 0), (1, 0), (1, 0), (1, 0), (1, 0), (1, 0)] [] h 0) (hK266 : ∀  (h : HP), K266  h → V G p l e (rmD 7 0) s m args below meth c (MQ below (QI G P) args s 0 0 (va_Aof G)) 7 266 [(1, 0), (1, 0), (1, 0), (1, 0), (1, 0), (1, 0), (1, 0)] [] h 0) : ∀ (f : Nat) (l5 : Int) (h : HP), wL_isChosen_156 G K283 K176 K266 f l5 h → V G p l e (rmD 7 0) s m args below meth c (MQ below (QI G P) args s 0 0 (va_Aof G)) 7 156 [(3, 1), (3, 4), (1, 0), (1, 0), (1, 0), (0, l5), (1, 0)] [] h 0 := by
  intro f
  induction f with
  | zero =>
    intro l5 h hw
    exact hw.elim
  | succ f ih =>
    intro l5 h hw
    refine V.iload hc dL_isChosen_156 rfl ?_
    obtain ⟨g60, hw⟩ := hw
    refine V.if_lt hc (tgt := 283) dL_isChosen_158 (by decide) g60 (fun c61 => ?_) (fun c61 => ?_)
    · replace hw := hw.1 c61
      refine V.drop (lo' := [(1, 0), (1, 0), (1, 0), (1, 0), (1, 0), (1, 0), (1, 0)]) ⟨Or.inl rfl, Or.inl rfl, Or.inr rfl, Or.inr rfl, Or.inr rfl, Or.inl rfl, Or.inr rfl, trivial⟩ ?_
      exact hK283 _ hw
    · replace hw := hw.2 c61
      refine V.aloadC_n hc hG.o1.rf dL_isChosen_161 rfl rfl ?_
      refine V.iload hc dL_isChosen_162 rfl ?_
      refine V.iconst hc dL_isChosen_164 ?_
      refine V.callOI hc hG.o1 (qX11_due _ l _ _ _ _ _ _ hXF hw) mo_X11_due ml_L_89 rfl (as := [(0, l5), (0, 2)]) rfl rfl rfl rfl rfl rfl ⟨Nat.zero_le _, Nat.zero_le _⟩ dL_isChosen_165 (fun x63 g64 h62 e hw => ?_)
      replace hw := hw h62 e
      clear e
      refine V.aloadC_n hc hG.o1.rf dL_isChosen_168 rfl rfl ?_
      refine V.iconst hc dL_isChosen_169 ?_
      refine V.callOI hc hG.o1 (qX11_count _ l _ _ _ _ _ hXF hw) mo_X11_count ml_L_75 rfl (as := [(0, 2)]) rfl rfl rfl rfl rfl rfl ⟨Nat.zero_le _, Nat.zero_le _⟩ dL_isChosen_170 (fun x66 g67 h65 e hw => ?_)
      replace hw := hw h65 e
      clear e
      obtain ⟨g68, hw⟩ := hw
      obtain ⟨g69, hw⟩ := hw
      refine V.icmp_le hc (tgt := 178) dL_isChosen_173 (by decide) g68 g69 (fun c70 => ?_) (fun c70 => ?_)
      · replace hw := hw.1 c70
        refine V.iconst hc dL_isChosen_178 ?_
        refine V.istore hc dL_isChosen_179 rfl (lo' := [(3, 1), (3, 4), (1, 0), (1, 0), (1, 0), (0, l5), (0, 0)]) rfl ?_
        obtain ⟨f114, hw⟩ := hw
        refine tL_isChosen_181 hc hr hG ?_ ?_ f114 _ _ hw
        · intro h115 hw
          refine V.aloadC_n hc hG.e4.rf dL_isChosen_274 rfl rfl ?_
          refine V.iload hc dL_isChosen_275 rfl ?_
          obtain ⟨g116, hw⟩ := hw
          refine V.lald (ln := (npI G)) hc hG.e4 (by decide) rfl g116 dL_isChosen_277 ?_
          refine V.istore hc dL_isChosen_278 rfl (lo' := [(3, 1), (3, 4), (1, 0), (1, 0), (1, 0), (0, h115 (kd 4) 0 l5), (1, 0)]) rfl ?_
          refine V.goto hc (tgt := 156) dL_isChosen_280 (by decide) ?_
          exact ih _ _ hw
        · intro h117 hw
          exact hK266 _ hw
      · replace hw := hw.2 c70
        refine V.drop (lo' := [(1, 0), (1, 0), (1, 0), (1, 0), (1, 0), (1, 0), (1, 0)]) ⟨Or.inl rfl, Or.inl rfl, Or.inr rfl, Or.inr rfl, Or.inr rfl, Or.inl rfl, Or.inr rfl, trivial⟩ ?_
        exact hK176 _ hw
theorem qL_isChosen (G : GG) (l : Launch) (hG : LG G) (h : HP) (P : Int → HP → Prop) (hw : wL_isChosen G  h P) : CnI l G yL_isChosen cL_isChosen 7 (some .boolean) 7 [(3, 1), (3, 4), (3, 5)] h P := by
  refine CnI.of (lo := [(3, 1), (3, 4), (3, 5), (1, 0), (1, 0), (1, 0), (1, 0)]) (by decide) rfl rfl rfl ?_
  intro p e s m args below meth c hc hr
  have hc : VC G p (rmD 7 0) s m args meth c RL cL_isChosen 7 7 := hc
  refine V.aloadC_n hc hG.o1.rf dL_isChosen_0 rfl rfl ?_
  refine V.iconst hc dL_isChosen_1 ?_
  refine V.callOI hc hG.o1 (qX11_count _ l _ _ _ _ _ hXF hw) mo_X11_count ml_L_75 rfl (as := [(0, 3)]) rfl rfl rfl rfl rfl rfl ⟨Nat.zero_le _, Nat.zero_le _⟩ dL_isChosen_2 (fun x2 g3 h1 e hw => ?_)
  replace hw := hw h1 e
  clear e
  obtain ⟨g4, hw⟩ := hw
  refine V.if_gt hc (tgt := 22) dL_isChosen_5 (by decide) g4 (fun c5 => ?_) (fun c5 => ?_)
  · replace hw := hw.1 c5
    refine V.iconst hc dL_isChosen_22 ?_
    exact V.zret hc hr dL_isChosen_23 (by omega) hw
  · replace hw := hw.2 c5
    refine V.aloadC_n hc hG.o1.rf dL_isChosen_8 rfl rfl ?_
    refine V.iconst hc dL_isChosen_9 ?_
    refine V.iconst hc dL_isChosen_10 ?_
    refine V.callOI hc hG.o1 (qX11_next _ l _ _ _ _ _ _ hXF hw) mo_X11_next ml_L_86 rfl (as := [(0, 1), (0, 1)]) rfl rfl rfl rfl rfl rfl ⟨Nat.zero_le _, Nat.zero_le _⟩ dL_isChosen_11 (fun x7 g8 h6 e hw => ?_)
    replace hw := hw h6 e
    clear e
    refine V.aloadC_n hc hG.o1.rf dL_isChosen_14 rfl rfl ?_
    refine V.iconst hc dL_isChosen_15 ?_
    refine V.callOI hc hG.o1 (qX11_count _ l _ _ _ _ _ hXF hw) mo_X11_count ml_L_75 rfl (as := [(0, 2)]) rfl rfl rfl rfl rfl rfl ⟨Nat.zero_le _, Nat.zero_le _⟩ dL_isChosen_16 (fun x10 g11 h9 e hw => ?_)
    replace hw := hw h9 e
    clear e
    obtain ⟨g12, hw⟩ := hw
    obtain ⟨g13, hw⟩ := hw
    refine V.icmp_eq hc (tgt := 24) dL_isChosen_19 (by decide) g12 g13 (fun c14 => ?_) (fun c14 => ?_)
    · replace hw := hw.1 c14
      refine V.iconst hc dL_isChosen_24 ?_
      refine V.istore_n hc dL_isChosen_25 rfl rfl (lo' := [(3, 1), (3, 4), (3, 5), (0, (-1)), (1, 0), (1, 0), (1, 0)]) rfl ?_
      refine V.iconst hc dL_isChosen_26 ?_
      refine V.istore hc dL_isChosen_27 rfl (lo' := [(3, 1), (3, 4), (3, 5), (0, (-1)), (0, 0), (1, 0), (1, 0)]) rfl ?_
      obtain ⟨f47, hw⟩ := hw
      refine tL_isChosen_29 hc hr hG ?_ f47 _ _ _ hw
      · intro l48 h49 hw
        refine V.iload_n hc dL_isChosen_103 rfl rfl ?_
        obtain ⟨g50, hw⟩ := hw
        refine V.if_lt hc (tgt := 133) dL_isChosen_104 (by decide) g50 (fun c51 => ?_) (fun c51 => ?_)
        · replace hw := hw.1 c51
          refine V.aloadC_n hc hG.o1.rf dL_isChosen_133 rfl rfl ?_
          refine V.iconst hc dL_isChosen_134 ?_
          refine V.iconst hc dL_isChosen_135 ?_
          refine V.callOI hc hG.o1 (qX11_next _ l _ _ _ _ _ _ hXF hw) mo_X11_next ml_L_86 rfl (as := [(0, 1), (0, 0)]) rfl rfl rfl rfl rfl rfl ⟨Nat.zero_le _, Nat.zero_le _⟩ dL_isChosen_136 (fun x53 g54 h52 e hw => ?_)
          replace hw := hw h52 e
          clear e
          refine V.istore hc dL_isChosen_139 rfl (lo' := [(3, 1), (3, 4), (1, 0), (0, l48), (0, x53), (1, 0), (1, 0)]) rfl ?_
          refine V.aloadC_n hc hG.o1.rf dL_isChosen_141 rfl rfl ?_
          refine V.iconst hc dL_isChosen_142 ?_
          refine V.iconst hc dL_isChosen_143 ?_
          refine V.callOI hc hG.o1 (qX11_next _ l _ _ _ _ _ _ hXF hw) mo_X11_next ml_L_86 rfl (as := [(0, 1), (0, 2)]) rfl rfl rfl rfl rfl rfl ⟨Nat.zero_le _, Nat.zero_le _⟩ dL_isChosen_144 (fun x56 g57 h55 e hw => ?_)
          replace hw := hw h55 e
          clear e
          obtain ⟨g58, hw⟩ := hw
          refine V.if_eq hc (tgt := 152) dL_isChosen_147 (by decide) g58 (fun c59 => ?_) (fun c59 => ?_)
          · replace hw := hw.1 c59
            refine V.iload hc dL_isChosen_152 rfl ?_
            refine V.istore hc dL_isChosen_154 rfl (lo' := [(3, 1), (3, 4), (1, 0), (0, l48), (0, x53), (0, x53), (1, 0)]) rfl ?_
            obtain ⟨f118, hw⟩ := hw
            refine V.drop (lo' := [(3, 1), (3, 4), (1, 0), (1, 0), (1, 0), (0, x53), (1, 0)]) ⟨Or.inr rfl, Or.inr rfl, Or.inr rfl, Or.inl rfl, Or.inl rfl, Or.inr rfl, Or.inr rfl, trivial⟩ ?_
            refine tL_isChosen_156 hc hr hG ?_ ?_ ?_ f118 _ _ hw
            · intro h119 hw
              refine V.iconst hc dL_isChosen_283 ?_
              exact V.zret hc hr dL_isChosen_284 (by omega) hw
            · intro h120 hw
              refine V.iconst hc dL_isChosen_176 ?_
              exact V.zret hc hr dL_isChosen_177 (by omega) hw
            · intro h121 hw
              refine V.iconst hc dL_isChosen_266 ?_
              exact V.zret hc hr dL_isChosen_267 (by omega) hw
          · replace hw := hw.2 c59
            refine V.iconst hc dL_isChosen_150 ?_
            exact V.zret hc hr dL_isChosen_151 (by omega) hw
        · replace hw := hw.2 c51
          refine V.aloadC_n hc hG.o1.rf dL_isChosen_107 rfl rfl ?_
          refine V.iconst hc dL_isChosen_108 ?_
          refine V.iconst hc dL_isChosen_109 ?_
          refine V.callOI hc hG.o1 (qX11_next _ l _ _ _ _ _ _ hXF hw) mo_X11_next ml_L_86 rfl (as := [(0, 1), (0, 0)]) rfl rfl rfl rfl rfl rfl ⟨Nat.zero_le _, Nat.zero_le _⟩ dL_isChosen_110 (fun x123 g124 h122 e hw => ?_)
          replace hw := hw h122 e
          clear e
          refine V.iload_n hc dL_isChosen_113 rfl rfl ?_
          obtain ⟨g125, hw⟩ := hw
          obtain ⟨g126, hw⟩ := hw
          refine V.icmp_ne hc (tgt := 131) dL_isChosen_114 (by decide) g125 g126 (fun c127 => ?_) (fun c127 => ?_)
          · replace hw := hw.1 c127
            refine V.iconst hc dL_isChosen_131 ?_
            exact V.zret hc hr dL_isChosen_132 (by omega) hw
          · replace hw := hw.2 c127
            refine V.aloadC_n hc hG.o1.rf dL_isChosen_117 rfl rfl ?_
            refine V.iconst hc dL_isChosen_118 ?_
            refine V.iconst hc dL_isChosen_119 ?_
            refine V.callOI hc hG.o1 (qX11_next _ l _ _ _ _ _ _ hXF hw) mo_X11_next ml_L_86 rfl (as := [(0, 1), (0, 2)]) rfl rfl rfl rfl rfl rfl ⟨Nat.zero_le _, Nat.zero_le _⟩ dL_isChosen_120 (fun x129 g130 h128 e hw => ?_)
            replace hw := hw h128 e
            clear e
            refine V.iconst hc dL_isChosen_123 ?_
            obtain ⟨g131, hw⟩ := hw
            refine V.icmp_ne hc (tgt := 131) dL_isChosen_124 (by decide) g131 (by omega) (fun c132 => ?_) (fun c132 => ?_)
            · replace hw := hw.1 c132
              refine V.iconst hc dL_isChosen_131 ?_
              exact V.zret hc hr dL_isChosen_132 (by omega) hw
            · replace hw := hw.2 c132
              refine V.iconst hc dL_isChosen_127 ?_
              refine V.goto hc (tgt := 132) dL_isChosen_128 (by decide) ?_
              exact V.zret hc hr dL_isChosen_132 (by omega) hw
    · replace hw := hw.2 c14
      refine V.iconst hc dL_isChosen_22 ?_
      exact V.zret hc hr dL_isChosen_23 (by omega) hw
