theorem qX12_spreadNow (G : GG) (l : Launch) (o : Int) (a1 : Int) (h : HP) (P : Int → HP → Prop) (hw : wX12_spreadNow o a1 h P) : CnI l G yX12_spreadNow cX12_spreadNow 2 (some .int) 23 [(22, o), (0, a1)] h P := by
  refine CnI.of (lo := [(22, o), (0, a1)]) (by decide) rfl rfl rfl ?_
  intro p e s m args below meth c hc hr
  have hc : VC G p (rmD 23 0) s m args meth c RX12 cX12_spreadNow 2 23 := hc
  refine V.aload_n (t := 12) hc dX12_spreadNow_0 rfl rfl ?_
  refine V.iload_n hc dX12_spreadNow_1 rfl rfl ?_
  refine V.iconst hc dX12_spreadNow_2 ?_
  refine V.callVI hc (qX12_tellVirtuals G l _ _ _ _ _ hw) mo_X12_tellVirtuals ml_X12_271 (by rfl) rfl rfl (as := [(0, a1), (0, (-1))]) rfl rfl rfl rfl rfl ⟨Nat.zero_le _, Nat.zero_le _⟩ dX12_spreadNow_3 (fun x2 h1 hw => ?_)
  obtain ⟨q5, hw⟩ := hw
  have kJ6 : ∀ t4 : Int, ((x2 = 0 → t4 = 0) ∧ (¬ x2 = 0 → t4 = (h1 12 o 24) - (h1 12 o 23))) → V G p l e (rmD 23 0) s m args below meth c (MQ below (QI G P) args s 0 0 (va_Aof G)) 2 22 [(1, 0), (1, 0)] [(0, t4)] h1 0 := by
    intro t4 he
    replace hw := hw t4 he
    clear he
    exact V.iret hc hr dX12_spreadNow_22 hw
  have g3 := q5
  refine V.if_eq hc (tgt := 21) dX12_spreadNow_6 (by decide) g3 (fun c7 => ?_) (fun c7 => ?_)
  · refine V.iconst hc dX12_spreadNow_21 ?_
    refine V.drop (lo' := [(1, 0), (1, 0)]) ⟨Or.inl rfl, Or.inl rfl, trivial⟩ ?_
    exact kJ6 _ ⟨fun _ => rfl, (fun q => absurd c7 q)⟩
  · refine V.aload_n (t := 12) hc dX12_spreadNow_9 rfl rfl ?_
    refine V.gI hc gI_X12_268 rfl dX12_spreadNow_10 ?_
    refine V.aload_n (t := 12) hc dX12_spreadNow_13 rfl rfl ?_
    refine V.gI hc gI_X12_265 rfl dX12_spreadNow_14 ?_
    refine V.isub hc dX12_spreadNow_17 ?_
    refine V.goto hc (tgt := 22) dX12_spreadNow_18 (by decide) ?_
    refine V.drop (lo' := [(1, 0), (1, 0)]) ⟨Or.inl rfl, Or.inl rfl, trivial⟩ ?_
    exact kJ6 _ ⟨(fun q => absurd q c7), fun _ => rfl⟩
theorem tX12_spread_54 {G : GG} {p : Program} {l : Launch} {e : Jvm.Env} {s : State} {m : MethodId} {args : Array Value} {below : List Frame} {meth : Method} {c : Code} {P : Int → HP → Prop} (hc : VC G p (rmD 40 0) s m args meth c RX12 cX12_spread 5 40) (hr : meth.sig.returnType = some .int) {o : Int} {a1 : Int} {a2 : Int} {K80 : Int → HP → Prop} (hK80 : ∀ (x3 : Int) (h : HP), K80 x3 h → V G p l e (rmD 40 0) s m args below meth c (MQ below (QI G P) args s 0 0 (va_Aof G)) 5 80 [(22, o), (1, 0), (1, 0), (0, x3), (1, 0)] [] h 0) : ∀ (f : Nat) (l3 : Int) (l4 : Int) (h : HP), wX12_spread_54 o a1 a2 K80 f l3 l4 h → V G p l e (rmD 40 0) s m args below meth c (MQ below (QI G P) args s 0 0 (va_Aof G)) 5 54 [(22, o), (0, a1), (0, a2), (0, l3), (0, l4)] [] h 0 := by
  intro f
  induction f with
  | zero =>
    intro l3 l4 h hw
    exact hw.elim
  | succ f ih =>
    intro l3 l4 h hw
    refine V.iload hc dX12_spread_54 rfl ?_
    refine V.iload_n hc dX12_spread_56 rfl rfl ?_
    obtain ⟨g11, hw⟩ := hw
    obtain ⟨g12, hw⟩ := hw
    refine V.icmp_ge hc (tgt := 80) dX12_spread_57 (by decide) g11 g12 (fun c13 => ?_) (fun c13 => ?_)
    · replace hw := hw.1 c13
      refine V.drop (lo' := [(22, o), (1, 0), (1, 0), (0, l3), (1, 0)]) ⟨Or.inr rfl, Or.inl rfl, Or.inl rfl, Or.inr rfl, Or.inl rfl, trivial⟩ ?_
      exact hK80 _ _ hw
    · replace hw := hw.2 c13
      refine V.aload_n (t := 12) hc dX12_spread_60 rfl rfl ?_
      refine V.callVV hc (qX12_unit G l _ _ _ hw) mo_X12_unit ml_X12_341 (by rfl) rfl rfl (as := []) rfl rfl rfl rfl rfl ⟨Nat.zero_le _, Nat.zero_le _⟩ dX12_spread_61 (fun h14 hw => ?_)
      refine V.iload_n hc dX12_spread_64 rfl rfl ?_
      refine V.aload_n (t := 12) hc dX12_spread_65 rfl rfl ?_
      refine V.iload_n hc dX12_spread_66 rfl rfl ?_
      refine V.callVI hc (qX12_spreadNow G l _ _ _ _ hw) mo_X12_spreadNow ml_X12_414 (by rfl) rfl rfl (as := [(0, a1)]) rfl rfl rfl rfl rfl ⟨Nat.zero_le _, Nat.zero_le _⟩ dX12_spread_67 (fun x16 h15 hw => ?_)
      obtain ⟨g17, hw⟩ := hw
      obtain ⟨g18, hw⟩ := hw
      refine V.mmax hc ml_X12_255 rfl rfl g17 g18 dX12_spread_70 ?_
      refine V.istore_n hc dX12_spread_73 rfl rfl (lo' := [(22, o), (0, a1), (0, a2), (0, max l3 x16), (0, l4)]) rfl ?_
      refine V.iinc hc dX12_spread_74 rfl rfl (lo' := [(22, o), (0, a1), (0, a2), (0, max l3 x16), (0, l4 + 1)]) rfl ?_
      refine V.goto hc (tgt := 54) dX12_spread_77 (by decide) ?_
      exact ih _ _ _ hw
theorem tX12_spread_24 {G : GG} {p : Program} {l : Launch} {e : Jvm.Env} {s : State} {m : MethodId} {args : Array Value} {below : List Frame} {meth : Method} {c : Code} {P : Int → HP → Prop} (hc : VC G p (rmD 40 0) s m args meth c RX12 cX12_spread 5 40) (hr : meth.sig.returnType = some .int) {o : Int} {a1 : Int} {a2 : Int} {h : HP} (hw : wX12_spread_24 o a1 a2 P h) : V G p l e (rmD 40 0) s m args below meth c (MQ below (QI G P) args s 0 0 (va_Aof G)) 5 24 [(22, o), (0, a1), (0, a2), (1, 0), (1, 0)] [] h 0 := by
  refine V.iload_n hc dX12_spread_24 rfl rfl ?_
  refine V.iconst hc dX12_spread_25 ?_
  refine V.sipush hc dX12_spread_26 (by decide) ?_
  refine V.callSI hc (qX12_isIn G l _ _ _ _ _ hw) mo_X12_isIn ml_X12_356 (as := [(0, a2), (0, 0), (0, 400)]) rfl rfl rfl rfl rfl ⟨Nat.zero_le _, Nat.zero_le _⟩ dX12_spread_29 (fun x5 h4 hw => ?_)
  obtain ⟨g6, hw⟩ := hw
  refine V.if_ne hc (tgt := 41) dX12_spread_32 (by decide) g6 (fun c7 => ?_) (fun c7 => ?_)
  · replace hw := hw.1 c7
    refine V.aload_n (t := 12) hc dX12_spread_41 rfl rfl ?_
    refine V.callVV hc (qX12_rememberNow G l _ _ _ hw) mo_X12_rememberNow ml_X12_402 (by rfl) rfl rfl (as := []) rfl rfl rfl rfl rfl ⟨Nat.zero_le _, Nat.zero_le _⟩ dX12_spread_42 (fun h8 hw => ?_)
    refine V.aload_n (t := 12) hc dX12_spread_45 rfl rfl ?_
    refine V.iload_n hc dX12_spread_46 rfl rfl ?_
    refine V.callVI hc (qX12_spreadNow G l _ _ _ _ hw) mo_X12_spreadNow ml_X12_414 (by rfl) rfl rfl (as := [(0, a1)]) rfl rfl rfl rfl rfl ⟨Nat.zero_le _, Nat.zero_le _⟩ dX12_spread_47 (fun x10 h9 hw => ?_)
    refine V.istore_n hc dX12_spread_50 rfl rfl (lo' := [(22, o), (0, a1), (0, a2), (0, x10), (1, 0)]) rfl ?_
    refine V.iconst hc dX12_spread_51 ?_
    refine V.istore hc dX12_spread_52 rfl (lo' := [(22, o), (0, a1), (0, a2), (0, x10), (0, 0)]) rfl ?_
    obtain ⟨f19, hw⟩ := hw
    refine tX12_spread_54 hc hr ?_ f19 _ _ _ hw
    · intro l20 h21 hw
      refine V.aload_n (t := 12) hc dX12_spread_80 rfl rfl ?_
      refine V.iload_n hc dX12_spread_81 rfl rfl ?_
      refine V.callVI hc (qX12_back G l _ _ _ _ hw) mo_X12_back ml_X12_405 (by rfl) rfl rfl (as := [(0, l20)]) rfl rfl rfl rfl rfl ⟨Nat.zero_le _, Nat.zero_le _⟩ dX12_spread_82 (fun x23 h22 hw => ?_)
      exact V.iret hc hr dX12_spread_85 hw
  · replace hw := hw.2 c7
    refine V.aload_n (t := 12) hc dX12_spread_35 rfl rfl ?_
    refine V.iconst hc dX12_spread_36 ?_
    refine V.callVI hc (qX12_fail G l _ _ _ _ hw) mo_X12_fail ml_X12_219 (by rfl) rfl rfl (as := [(0, 2)]) rfl rfl rfl rfl rfl ⟨Nat.zero_le _, Nat.zero_le _⟩ dX12_spread_37 (fun x25 h24 hw => ?_)
    exact V.iret hc hr dX12_spread_40 hw
theorem qX12_spread (G : GG) (l : Launch) (o : Int) (a1 : Int) (a2 : Int) (h : HP) (P : Int → HP → Prop) (hw : wX12_spread o a1 a2 h P) : CnI l G yX12_spread cX12_spread 5 (some .int) 40 [(22, o), (0, a1), (0, a2)] h P := by
  refine CnI.of (lo := [(22, o), (0, a1), (0, a2), (1, 0), (1, 0)]) (by decide) rfl rfl rfl ?_
  intro p e s m args below meth c hc hr
  have hc : VC G p (rmD 40 0) s m args meth c RX12 cX12_spread 5 40 := hc
  refine V.aload_n (t := 12) hc dX12_spread_0 rfl rfl ?_
  refine V.iconst hc dX12_spread_1 ?_
  refine V.pI hc pI_X12_118 rfl dX12_spread_2 (fun h1 e => ?_)
  replace hw := hw h1 e
  clear e
  refine V.iload_n hc dX12_spread_5 rfl rfl ?_
  refine V.iconst hc dX12_spread_6 ?_
  obtain ⟨g2, hw⟩ := hw
  refine V.icmp_eq hc (tgt := 24) dX12_spread_7 (by decide) g2 (by omega) (fun c3 => ?_) (fun c3 => ?_)
  · replace hw := hw.1 c3
    exact tX12_spread_24 hc hr  hw
  · replace hw := hw.2 c3
    refine V.aload_n (t := 12) hc dX12_spread_10 rfl rfl ?_
    refine V.iload_n hc dX12_spread_11 rfl rfl ?_
    refine V.callVI hc (qX12_isClass G l _ _ _ _ hw) mo_X12_isClass ml_X12_360 (by rfl) rfl rfl (as := [(0, a1)]) rfl rfl rfl rfl rfl ⟨Nat.zero_le _, Nat.zero_le _⟩ dX12_spread_12 (fun x27 h26 hw => ?_)
    obtain ⟨g28, hw⟩ := hw
    refine V.if_ne hc (tgt := 24) dX12_spread_15 (by decide) g28 (fun c29 => ?_) (fun c29 => ?_)
    · replace hw := hw.1 c29
      exact tX12_spread_24 hc hr  hw
    · replace hw := hw.2 c29
      refine V.aload_n (t := 12) hc dX12_spread_18 rfl rfl ?_
      refine V.iconst hc dX12_spread_19 ?_
      refine V.callVI hc (qX12_fail G l _ _ _ _ hw) mo_X12_fail ml_X12_219 (by rfl) rfl rfl (as := [(0, 1)]) rfl rfl rfl rfl rfl ⟨Nat.zero_le _, Nat.zero_le _⟩ dX12_spread_20 (fun x31 h30 hw => ?_)
      exact V.iret hc hr dX12_spread_23 hw
theorem qX12_note (G : GG) (l : Launch) (o : Int) (a1 : Int) (a2 : Int) (a3 : Int) (h : HP) (P : Int → HP → Prop) (hw : wX12_note o a1 a2 a3 h P) : CnI l G yX12_note cX12_note 4 (some .int) 10 [(22, o), (0, a1), (0, a2), (0, a3)] h P := by
  refine CnI.of (lo := [(22, o), (0, a1), (0, a2), (0, a3)]) (by decide) rfl rfl rfl ?_
  intro p e s m args below meth c hc hr
  have hc : VC G p (rmD 10 0) s m args meth c RX12 cX12_note 4 10 := hc
  refine V.aload_n (t := 12) hc dX12_note_0 rfl rfl ?_
  refine V.iconst hc dX12_note_1 ?_
  refine V.pI hc pI_X12_118 rfl dX12_note_2 (fun h1 e => ?_)
  replace hw := hw h1 e
  clear e
  refine V.aload_n (t := 12) hc dX12_note_5 rfl rfl ?_
  refine V.gI hc gI_X12_235 rfl dX12_note_6 ?_
  refine V.bipush hc dX12_note_9 (by decide) ?_
  obtain ⟨g2, hw⟩ := hw
  refine V.icmp_eq hc (tgt := 43) dX12_note_11 (by decide) g2 (by omega) (fun c3 => ?_) (fun c3 => ?_)
  · replace hw := hw.1 c3
    refine V.aload_n (t := 12) hc dX12_note_43 rfl rfl ?_
    refine V.iconst hc dX12_note_44 ?_
    refine V.callVI hc (qX12_refuse G l _ _ _ _ hw) mo_X12_refuse ml_X12_369 (by rfl) rfl rfl (as := [(0, 2)]) rfl rfl rfl rfl rfl ⟨Nat.zero_le _, Nat.zero_le _⟩ dX12_note_45 (fun x5 h4 hw => ?_)
    exact V.iret hc hr dX12_note_48 hw
  · replace hw := hw.2 c3
    refine V.aload_n (t := 12) hc dX12_note_14 rfl rfl ?_
    refine V.iload_n hc dX12_note_15 rfl rfl ?_
    refine V.callVI hc (qX12_isClass G l _ _ _ _ hw) mo_X12_isClass ml_X12_360 (by rfl) rfl rfl (as := [(0, a1)]) rfl rfl rfl rfl rfl ⟨Nat.zero_le _, Nat.zero_le _⟩ dX12_note_16 (fun x7 h6 hw => ?_)
    obtain ⟨g8, hw⟩ := hw
    refine V.if_eq hc (tgt := 43) dX12_note_19 (by decide) g8 (fun c9 => ?_) (fun c9 => ?_)
    · replace hw := hw.1 c9
      refine V.aload_n (t := 12) hc dX12_note_43 rfl rfl ?_
      refine V.iconst hc dX12_note_44 ?_
      refine V.callVI hc (qX12_refuse G l _ _ _ _ hw) mo_X12_refuse ml_X12_369 (by rfl) rfl rfl (as := [(0, 2)]) rfl rfl rfl rfl rfl ⟨Nat.zero_le _, Nat.zero_le _⟩ dX12_note_45 (fun x11 h10 hw => ?_)
      exact V.iret hc hr dX12_note_48 hw
    · replace hw := hw.2 c9
      refine V.iload_n hc dX12_note_22 rfl rfl ?_
      refine V.iconst hc dX12_note_23 ?_
      refine V.bipush hc dX12_note_24 (by decide) ?_
      refine V.callSI hc (qX12_isIn G l _ _ _ _ _ hw) mo_X12_isIn ml_X12_356 (as := [(0, a2), (0, 0), (0, 100)]) rfl rfl rfl rfl rfl ⟨Nat.zero_le _, Nat.zero_le _⟩ dX12_note_26 (fun x13 h12 hw => ?_)
      obtain ⟨g14, hw⟩ := hw
      refine V.if_eq hc (tgt := 43) dX12_note_29 (by decide) g14 (fun c15 => ?_) (fun c15 => ?_)
      · replace hw := hw.1 c15
        refine V.aload_n (t := 12) hc dX12_note_43 rfl rfl ?_
        refine V.iconst hc dX12_note_44 ?_
        refine V.callVI hc (qX12_refuse G l _ _ _ _ hw) mo_X12_refuse ml_X12_369 (by rfl) rfl rfl (as := [(0, 2)]) rfl rfl rfl rfl rfl ⟨Nat.zero_le _, Nat.zero_le _⟩ dX12_note_45 (fun x17 h16 hw => ?_)
        exact V.iret hc hr dX12_note_48 hw
      · replace hw := hw.2 c15
        refine V.iload_n hc dX12_note_32 rfl rfl ?_
        refine V.iconst hc dX12_note_33 ?_
        refine V.sipush hc dX12_note_34 (by decide) ?_
        refine V.callSI hc (qX12_isIn G l _ _ _ _ _ hw) mo_X12_isIn ml_X12_356 (as := [(0, a3), (0, 0), (0, 9999)]) rfl rfl rfl rfl rfl ⟨Nat.zero_le _, Nat.zero_le _⟩ dX12_note_37 (fun x19 h18 hw => ?_)
        obtain ⟨g20, hw⟩ := hw
        refine V.if_ne hc (tgt := 49) dX12_note_40 (by decide) g20 (fun c21 => ?_) (fun c21 => ?_)
        · replace hw := hw.1 c21
          refine V.aload_n (t := 12) hc dX12_note_49 rfl rfl ?_
          refine V.gR hc gR_X12_79 (i' := o) rfl dX12_note_50 ?_
          refine V.aload_n (t := 12) hc dX12_note_53 rfl rfl ?_
          refine V.gI hc gI_X12_235 rfl dX12_note_54 ?_
          refine V.iload_n hc dX12_note_57 rfl rfl ?_
          obtain ⟨g23, hw⟩ := hw
          refine V.ast hc ak_64 g23 dX12_note_58 (fun h22 e => ?_)
          replace hw := hw h22 e
          clear e
          refine V.aload_n (t := 12) hc dX12_note_59 rfl rfl ?_
          refine V.gR hc gR_X12_82 (i' := o) rfl dX12_note_60 ?_
          refine V.aload_n (t := 12) hc dX12_note_63 rfl rfl ?_
          refine V.gI hc gI_X12_235 rfl dX12_note_64 ?_
          refine V.iload_n hc dX12_note_67 rfl rfl ?_
          obtain ⟨g25, hw⟩ := hw
          refine V.ast hc ak_65 g25 dX12_note_68 (fun h24 e => ?_)
          replace hw := hw h24 e
          clear e
          refine V.aload_n (t := 12) hc dX12_note_69 rfl rfl ?_
          refine V.gR hc gR_X12_85 (i' := o) rfl dX12_note_70 ?_
          refine V.aload_n (t := 12) hc dX12_note_73 rfl rfl ?_
          refine V.gI hc gI_X12_235 rfl dX12_note_74 ?_
          refine V.iload_n hc dX12_note_77 rfl rfl ?_
          obtain ⟨g27, hw⟩ := hw
          refine V.ast hc ak_66 g27 dX12_note_78 (fun h26 e => ?_)
          replace hw := hw h26 e
          clear e
          refine V.aload_n (t := 12) hc dX12_note_79 rfl rfl ?_
          refine V.dup hc dX12_note_80 (by simp) ?_
          refine V.gI hc gI_X12_235 rfl dX12_note_81 ?_
          refine V.iconst hc dX12_note_84 ?_
          refine V.iadd hc dX12_note_85 ?_
          refine V.pI hc pI_X12_235 rfl dX12_note_86 (fun h28 e => ?_)
          replace hw := hw h28 e
          clear e
          refine V.aload_n (t := 12) hc dX12_note_89 rfl rfl ?_
          refine V.gI hc gI_X12_235 rfl dX12_note_90 ?_
          exact V.iret hc hr dX12_note_93 hw
        · replace hw := hw.2 c21
          refine V.aload_n (t := 12) hc dX12_note_43 rfl rfl ?_
          refine V.iconst hc dX12_note_44 ?_
          refine V.callVI hc (qX12_refuse G l _ _ _ _ hw) mo_X12_refuse ml_X12_369 (by rfl) rfl rfl (as := [(0, 2)]) rfl rfl rfl rfl rfl ⟨Nat.zero_le _, Nat.zero_le _⟩ dX12_note_45 (fun x30 h29 hw => ?_)
          exact V.iret hc hr dX12_note_48 hw
theorem qX12_forget (G : GG) (l : Launch) (o : Int) (h : HP) (P : HP → Prop) (hw : wX12_forget o h P) : CnV l G yX12_forget cX12_forget 1 8 [(22, o)] h P := by
  refine CnV.of (lo := [(22, o)]) (by decide) rfl rfl rfl ?_
  intro p e s m args below meth c hc hr
  have hc : VC G p (rmD 8 0) s m args meth c RX12 cX12_forget 1 8 := hc
  refine V.aload_n (t := 12) hc dX12_forget_0 rfl rfl ?_
  refine V.iconst hc dX12_forget_1 ?_
  refine V.pI hc pI_X12_118 rfl dX12_forget_2 (fun h1 e => ?_)
  replace hw := hw h1 e
  clear e
  refine V.aload_n (t := 12) hc dX12_forget_5 rfl rfl ?_
  refine V.iconst hc dX12_forget_6 ?_
  refine V.pI hc pI_X12_235 rfl dX12_forget_7 (fun h2 e => ?_)
  replace hw := hw h2 e
  clear e
  exact V.vret hc hr dX12_forget_10 hw
theorem tX12_isAsNoted_12 {G : GG} {p : Program} {l : Launch} {e : Jvm.Env} {s : State} {m : MethodId} {args : Array Value} {below : List Frame} {meth : Method} {c : Code} {P : Int → HP → Prop} (hc : VC G p (rmD 40 0) s m args meth c RX12 cX12_isAsNoted 5 40) (hr : meth.sig.returnType = some .boolean) {o : Int} {l2 : Int} {h : HP} {K85 : Int → Prop} (hK85 : ∀ (x1 : Int), K85 x1 → V G p l e (rmD 40 0) s m args below meth c (MQ below (QI G P) args s 0 0 (va_Aof G)) 5 85 [(22, o), (0, x1), (0, l2), (1, 0), (1, 0)] [] h 0) : ∀ (f : Nat) (l1 : Int) (l3 : Int), wX12_isAsNoted_12 o l2 h K85 f l1 l3 → V G p l e (rmD 40 0) s m args below meth c (MQ below (QI G P) args s 0 0 (va_Aof G)) 5 12 [(22, o), (0, l1), (0, l2), (0, l3), (1, 0)] [] h 0 := by
  intro f
  induction f with
  | zero =>
    intro l1 l3 hw
    exact hw.elim
  | succ f ih =>
    intro l1 l3 hw
    refine V.iload_n hc dX12_isAsNoted_12 rfl rfl ?_
    refine V.aload_n (t := 12) hc dX12_isAsNoted_13 rfl rfl ?_
    refine V.gI hc gI_X12_235 rfl dX12_isAsNoted_14 ?_
    obtain ⟨g3, hw⟩ := hw
    obtain ⟨g4, hw⟩ := hw
    refine V.icmp_ge hc (tgt := 85) dX12_isAsNoted_17 (by decide) g3 g4 (fun c5 => ?_) (fun c5 => ?_)
    · replace hw := hw.1 c5
      refine V.drop (lo' := [(22, o), (0, l1), (0, l2), (1, 0), (1, 0)]) ⟨Or.inr rfl, Or.inr rfl, Or.inr rfl, Or.inl rfl, Or.inr rfl, trivial⟩ ?_
      exact hK85 _ hw
    · replace hw := hw.2 c5
      refine V.sipush hc dX12_isAsNoted_20 (by decide) ?_
      refine V.aload_n (t := 12) hc dX12_isAsNoted_23 rfl rfl ?_
      refine V.gR hc gR_X12_79 (i' := o) rfl dX12_isAsNoted_24 ?_
      refine V.iload_n hc dX12_isAsNoted_27 rfl rfl ?_
      obtain ⟨g6, hw⟩ := hw
      refine V.ald hc ak_64 g6 dX12_isAsNoted_28 ?_
      refine V.imul hc dX12_isAsNoted_29 ?_
      refine V.bipush hc dX12_isAsNoted_30 (by decide) ?_
      refine V.iadd hc dX12_isAsNoted_32 ?_
      refine V.istore hc dX12_isAsNoted_33 rfl (lo' := [(22, o), (0, l1), (0, l2), (0, l3), (0, (257 * (h 64 o l3)) + 12)]) rfl ?_
      refine V.iload_n hc dX12_isAsNoted_35 rfl rfl ?_
      obtain ⟨q17, hw⟩ := hw
      have kJ18 : ∀ t16 : Int, ((l1 = 0 → t16 = 0) ∧ (¬ l1 = 0 → ((¬ h 65 o l3 = l2 → t16 = 1) ∧ (h 65 o l3 = l2 → ((¬ (h 56 o ((257 * (h 64 o l3)) + 12)) - (h 63 o ((257 * (h 64 o l3)) + 12)) = h 66 o l3 → t16 = 0) ∧ ((h 56 o ((257 * (h 64 o l3)) + 12)) - (h 63 o ((257 * (h 64 o l3)) + 12)) = h 66 o l3 → t16 = 1)))))) → V G p l e (rmD 40 0) s m args below meth c (MQ below (QI G P) args s 0 0 (va_Aof G)) 5 78 [(22, o), (1, 0), (0, l2), (0, l3), (1, 0)] [(0, t16)] h 0 := by
        intro t16 he
        replace hw := hw t16 he
        clear he
        refine V.istore_n hc dX12_isAsNoted_78 rfl rfl (lo' := [(22, o), (0, t16), (0, l2), (0, l3), (1, 0)]) rfl ?_
        refine V.iinc hc dX12_isAsNoted_79 rfl rfl (lo' := [(22, o), (0, t16), (0, l2), (0, l3 + 1), (1, 0)]) rfl ?_
        refine V.goto hc (tgt := 12) dX12_isAsNoted_82 (by decide) ?_
        exact ih _ _ hw
      obtain ⟨g7, q19⟩ := q17
      refine V.if_eq hc (tgt := 77) dX12_isAsNoted_36 (by decide) g7 (fun c20 => ?_) (fun c20 => ?_)
      · refine V.iconst hc dX12_isAsNoted_77 ?_
        refine V.drop (lo' := [(22, o), (1, 0), (0, l2), (0, l3), (1, 0)]) ⟨Or.inr rfl, Or.inl rfl, Or.inr rfl, Or.inr rfl, Or.inl rfl, trivial⟩ ?_
        exact kJ18 _ ⟨fun _ => rfl, (fun q => absurd c20 q)⟩
      · have q21 := q19 c20
        obtain ⟨g8, g9, g10, q22⟩ := q21
        refine V.aload_n (t := 12) hc dX12_isAsNoted_39 rfl rfl ?_
        refine V.gR hc gR_X12_82 (i' := o) rfl dX12_isAsNoted_40 ?_
        refine V.iload_n hc dX12_isAsNoted_43 rfl rfl ?_
        refine V.ald hc ak_65 g8 dX12_isAsNoted_44 ?_
        refine V.iload_n hc dX12_isAsNoted_45 rfl rfl ?_
        refine V.icmp_ne hc (tgt := 73) dX12_isAsNoted_46 (by decide) g9 g10 (fun c23 => ?_) (fun c23 => ?_)
        · refine V.iconst hc dX12_isAsNoted_73 ?_
          refine V.goto hc (tgt := 78) dX12_isAsNoted_74 (by decide) ?_
          refine V.drop (lo' := [(22, o), (1, 0), (0, l2), (0, l3), (1, 0)]) ⟨Or.inr rfl, Or.inl rfl, Or.inr rfl, Or.inr rfl, Or.inl rfl, trivial⟩ ?_
          exact kJ18 _ ⟨(fun q => absurd q c20), fun _ => ⟨fun _ => rfl, (fun q => absurd q c23)⟩⟩
        · have q24 := q22 c23
          obtain ⟨g11, g12, g13, g14, g15⟩ := q24
          refine V.aload_n (t := 12) hc dX12_isAsNoted_49 rfl rfl ?_
          refine V.gR hc gR_X12_43 (i' := o) rfl dX12_isAsNoted_50 ?_
          refine V.iload hc dX12_isAsNoted_53 rfl ?_
          refine V.ald hc ak_56 g11 dX12_isAsNoted_55 ?_
          refine V.aload_n (t := 12) hc dX12_isAsNoted_56 rfl rfl ?_
          refine V.gR hc gR_X12_76 (i' := o) rfl dX12_isAsNoted_57 ?_
          refine V.iload hc dX12_isAsNoted_60 rfl ?_
          refine V.ald hc ak_63 g12 dX12_isAsNoted_62 ?_
          refine V.isub hc dX12_isAsNoted_63 ?_
          refine V.aload_n (t := 12) hc dX12_isAsNoted_64 rfl rfl ?_
          refine V.gR hc gR_X12_85 (i' := o) rfl dX12_isAsNoted_65 ?_
          refine V.iload_n hc dX12_isAsNoted_68 rfl rfl ?_
          refine V.ald hc ak_66 g13 dX12_isAsNoted_69 ?_
          refine V.icmp_ne hc (tgt := 77) dX12_isAsNoted_70 (by decide) g14 g15 (fun c25 => ?_) (fun c25 => ?_)
          · refine V.iconst hc dX12_isAsNoted_77 ?_
            refine V.drop (lo' := [(22, o), (1, 0), (0, l2), (0, l3), (1, 0)]) ⟨Or.inr rfl, Or.inl rfl, Or.inr rfl, Or.inr rfl, Or.inl rfl, trivial⟩ ?_
            exact kJ18 _ ⟨(fun q => absurd q c20), fun _ => ⟨(fun q => absurd c23 q), fun _ => ⟨fun _ => rfl, (fun q => absurd q c25)⟩⟩⟩
          · refine V.iconst hc dX12_isAsNoted_73 ?_
            refine V.goto hc (tgt := 78) dX12_isAsNoted_74 (by decide) ?_
            refine V.drop (lo' := [(22, o), (1, 0), (0, l2), (0, l3), (1, 0)]) ⟨Or.inr rfl, Or.inl rfl, Or.inr rfl, Or.inr rfl, Or.inl rfl, trivial⟩ ?_
            exact kJ18 _ ⟨(fun q => absurd q c20), fun _ => ⟨(fun q => absurd c23 q), fun _ => ⟨(fun q => absurd c25 q), fun _ => rfl⟩⟩⟩
theorem tX12_isAsNoted_87 {G : GG} {p : Program} {l : Launch} {e : Jvm.Env} {s : State} {m : MethodId} {args : Array Value} {below : List Frame} {meth : Method} {c : Code} {P : Int → HP → Prop} (hc : VC G p (rmD 40 0) s m args meth c RX12 cX12_isAsNoted 5 40) (hr : meth.sig.returnType = some .boolean) {o : Int} {l1 : Int} {l2 : Int} {K128 : HP → Prop} (hK128 : ∀  (h : HP), K128  h → V G p l e (rmD 40 0) s m args below meth c (MQ below (QI G P) args s 0 0 (va_Aof G)) 5 128 [(22, o), (0, l1), (0, l2), (1, 0), (1, 0)] [] h 0) : ∀ (f : Nat) (l3 : Int) (h : HP), wX12_isAsNoted_87 o l1 l2 K128 f l3 h → V G p l e (rmD 40 0) s m args below meth c (MQ below (QI G P) args s 0 0 (va_Aof G)) 5 87 [(22, o), (0, l1), (0, l2), (0, l3), (1, 0)] [] h 0 := by
  intro f
  induction f with
  | zero =>
    intro l3 h hw
    exact hw.elim
  | succ f ih =>
    intro l3 h hw
    refine V.iload_n hc dX12_isAsNoted_87 rfl rfl ?_
    refine V.aload_n (t := 12) hc dX12_isAsNoted_88 rfl rfl ?_
    refine V.gR hc gR_X12_21 (i' := o) rfl dX12_isAsNoted_89 ?_
    refine V.iconst hc dX12_isAsNoted_92 ?_
    refine V.ald hc ak_49 (by omega) dX12_isAsNoted_93 ?_
    obtain ⟨g28, hw⟩ := hw
    obtain ⟨g29, hw⟩ := hw
    refine V.icmp_ge hc (tgt := 128) dX12_isAsNoted_94 (by decide) g28 g29 (fun c30 => ?_) (fun c30 => ?_)
    · replace hw := hw.1 c30
      refine V.drop (lo' := [(22, o), (0, l1), (0, l2), (1, 0), (1, 0)]) ⟨Or.inr rfl, Or.inr rfl, Or.inr rfl, Or.inl rfl, Or.inr rfl, trivial⟩ ?_
      exact hK128 _ hw
    · replace hw := hw.2 c30
      refine V.iload_n hc dX12_isAsNoted_97 rfl rfl ?_
      refine V.bipush hc dX12_isAsNoted_98 (by decide) ?_
      obtain ⟨g31, hw⟩ := hw
      refine V.icmp_ne hc (tgt := 128) dX12_isAsNoted_100 (by decide) g31 (by omega) (fun c32 => ?_) (fun c32 => ?_)
      · replace hw := hw.1 c32
        refine V.drop (lo' := [(22, o), (0, l1), (0, l2), (1, 0), (1, 0)]) ⟨Or.inr rfl, Or.inr rfl, Or.inr rfl, Or.inl rfl, Or.inr rfl, trivial⟩ ?_
        exact hK128 _ hw
      · replace hw := hw.2 c32
        refine V.aload_n (t := 12) hc dX12_isAsNoted_103 rfl rfl ?_
        refine V.gR hc gR_X12_88 (i' := o) rfl dX12_isAsNoted_104 ?_
        refine V.iload_n hc dX12_isAsNoted_107 rfl rfl ?_
        refine V.aload_n (t := 12) hc dX12_isAsNoted_108 rfl rfl ?_
        refine V.gR hc gR_X12_43 (i' := o) rfl dX12_isAsNoted_109 ?_
        refine V.sipush hc dX12_isAsNoted_112 (by decide) ?_
        refine V.iload_n hc dX12_isAsNoted_115 rfl rfl ?_
        refine V.imul hc dX12_isAsNoted_116 ?_
        refine V.bipush hc dX12_isAsNoted_117 (by decide) ?_
        refine V.iadd hc dX12_isAsNoted_119 ?_
        obtain ⟨g33, hw⟩ := hw
        refine V.ald hc ak_56 g33 dX12_isAsNoted_120 ?_
        obtain ⟨g35, hw⟩ := hw
        refine V.ast hc ak_67 g35 dX12_isAsNoted_121 (fun h34 e => ?_)
        replace hw := hw h34 e
        clear e
        refine V.iinc hc dX12_isAsNoted_122 rfl rfl (lo' := [(22, o), (0, l1), (0, l2), (0, l3 + 1), (1, 0)]) rfl ?_
        refine V.goto hc (tgt := 87) dX12_isAsNoted_125 (by decide) ?_
        exact ih _ _ hw
theorem tX12_isAsNoted_138 {G : GG} {p : Program} {l : Launch} {e : Jvm.Env} {s : State} {m : MethodId} {args : Array Value} {below : List Frame} {meth : Method} {c : Code} {P : Int → HP → Prop} (hc : VC G p (rmD 40 0) s m args meth c RX12 cX12_isAsNoted 5 40) (hr : meth.sig.returnType = some .boolean) {o : Int} {l1 : Int} {l2 : Int} {h : HP} {K4 : Int → Int → HP → Prop} (hK4 : ∀ (x1 : Int) (x2 : Int) (h : HP), K4 x1 x2 h → V G p l e (rmD 40 0) s m args below meth c (MQ below (QI G P) args s 0 0 (va_Aof G)) 5 4 [(22, o), (0, x1), (0, x2), (1, 0), (1, 0)] [] h 0) (hw : wX12_isAsNoted_138 o l1 l2 K4 h) : V G p l e (rmD 40 0) s m args below meth c (MQ below (QI G P) args s 0 0 (va_Aof G)) 5 138 [(22, o), (0, l1), (0, l2), (1, 0), (1, 0)] [] h 0 := by
  refine V.iinc hc dX12_isAsNoted_138 rfl rfl (lo' := [(22, o), (0, l1), (0, l2 + 1), (1, 0), (1, 0)]) rfl ?_
  refine V.goto hc (tgt := 4) dX12_isAsNoted_141 (by decide) ?_
  exact hK4 _ _ _ hw
theorem tX12_isAsNoted_4 {G : GG} {p : Program} {l : Launch} {e : Jvm.Env} {s : State} {m : MethodId} {args : Array Value} {below : List Frame} {meth : Method} {c : Code} {P : Int → HP → Prop} (hc : VC G p (rmD 40 0) s m args meth c RX12 cX12_isAsNoted 5 40) (hr : meth.sig.returnType = some .boolean) {o : Int} {K144 : Int → HP → Prop} (hK144 : ∀ (x1 : Int) (h : HP), K144 x1 h → V G p l e (rmD 40 0) s m args below meth c (MQ below (QI G P) args s 0 0 (va_Aof G)) 5 144 [(22, o), (0, x1), (1, 0), (1, 0), (1, 0)] [] h 0) : ∀ (f : Nat) (l1 : Int) (l2 : Int) (h : HP), wX12_isAsNoted_4 o K144 f l1 l2 h → V G p l e (rmD 40 0) s m args below meth c (MQ below (QI G P) args s 0 0 (va_Aof G)) 5 4 [(22, o), (0, l1), (0, l2), (1, 0), (1, 0)] [] h 0 := by
  intro f
  induction f with
  | zero =>
    intro l1 l2 h hw
    exact hw.elim
  | succ f ih =>
    intro l1 l2 h hw
    refine V.iload_n hc dX12_isAsNoted_4 rfl rfl ?_
    refine V.bipush hc dX12_isAsNoted_5 (by decide) ?_
    obtain ⟨g1, hw⟩ := hw
    refine V.icmp_gt hc (tgt := 144) dX12_isAsNoted_7 (by decide) g1 (by omega) (fun c2 => ?_) (fun c2 => ?_)
    · replace hw := hw.1 c2
      refine V.drop (lo' := [(22, o), (0, l1), (1, 0), (1, 0), (1, 0)]) ⟨Or.inr rfl, Or.inr rfl, Or.inl rfl, Or.inr rfl, Or.inr rfl, trivial⟩ ?_
      exact hK144 _ _ hw
    · replace hw := hw.2 c2
      refine V.iconst hc dX12_isAsNoted_10 ?_
      refine V.istore_n hc dX12_isAsNoted_11 rfl rfl (lo' := [(22, o), (0, l1), (0, l2), (0, 0), (1, 0)]) rfl ?_
      obtain ⟨f26, hw⟩ := hw
      refine tX12_isAsNoted_12 hc hr ?_ f26 _ _ hw
      · intro l27 hw
        refine V.iconst hc dX12_isAsNoted_85 ?_
        refine V.istore_n hc dX12_isAsNoted_86 rfl rfl (lo' := [(22, o), (0, l27), (0, l2), (0, 0), (1, 0)]) rfl ?_
        obtain ⟨f36, hw⟩ := hw
        refine tX12_isAsNoted_87 hc hr ?_ f36 _ _ hw
        · intro h37 hw
          refine V.iload_n hc dX12_isAsNoted_128 rfl rfl ?_
          refine V.bipush hc dX12_isAsNoted_129 (by decide) ?_
          obtain ⟨g38, hw⟩ := hw
          refine V.icmp_ge hc (tgt := 138) dX12_isAsNoted_131 (by decide) g38 (by omega) (fun c39 => ?_) (fun c39 => ?_)
          · replace hw := hw.1 c39
            exact tX12_isAsNoted_138 hc hr (fun y1 y2 hy hw => by exact ih _ _ _ hw) hw
          · replace hw := hw.2 c39
            refine V.aload_n (t := 12) hc dX12_isAsNoted_134 rfl rfl ?_
            refine V.callVV hc (qX12_unit G l _ _ _ hw) mo_X12_unit ml_X12_341 (by rfl) rfl rfl (as := []) rfl rfl rfl rfl rfl ⟨Nat.zero_le _, Nat.zero_le _⟩ dX12_isAsNoted_135 (fun h40 hw => ?_)
            exact tX12_isAsNoted_138 hc hr (fun y1 y2 hy hw => by exact ih _ _ _ hw) hw
theorem qX12_isAsNoted (G : GG) (l : Launch) (o : Int) (h : HP) (P : Int → HP → Prop) (hw : wX12_isAsNoted o h P) : CnI l G yX12_isAsNoted cX12_isAsNoted 5 (some .boolean) 40 [(22, o)] h P := by
  refine CnI.of (lo := [(22, o), (1, 0), (1, 0), (1, 0), (1, 0)]) (by decide) rfl rfl rfl ?_
  intro p e s m args below meth c hc hr
  have hc : VC G p (rmD 40 0) s m args meth c RX12 cX12_isAsNoted 5 40 := hc
  refine V.iconst hc dX12_isAsNoted_0 ?_
  refine V.istore_n hc dX12_isAsNoted_1 rfl rfl (lo' := [(22, o), (0, 1), (1, 0), (1, 0), (1, 0)]) rfl ?_
  refine V.iconst hc dX12_isAsNoted_2 ?_
  refine V.istore_n hc dX12_isAsNoted_3 rfl rfl (lo' := [(22, o), (0, 1), (0, 0), (1, 0), (1, 0)]) rfl ?_
  obtain ⟨f41, hw⟩ := hw
  refine tX12_isAsNoted_4 hc hr ?_ f41 _ _ _ hw
  · intro l42 h43 hw
    refine V.aload_n (t := 12) hc dX12_isAsNoted_144 rfl rfl ?_
    refine V.iconst hc dX12_isAsNoted_145 ?_
    refine V.callVI hc (qX12_back G l _ _ _ _ hw) mo_X12_back ml_X12_405 (by rfl) rfl rfl (as := [(0, 0)]) rfl rfl rfl rfl rfl ⟨Nat.zero_le _, Nat.zero_le _⟩ dX12_isAsNoted_146 (fun x45 h44 hw => ?_)
    refine V.pop hc dX12_isAsNoted_149 (by show (0 : Nat) ≠ 2; omega) ?_
    refine V.iload_n hc dX12_isAsNoted_150 rfl rfl ?_
    obtain ⟨g46, hw⟩ := hw
    exact V.zret hc hr dX12_isAsNoted_151 g46 hw
theorem tX12_putSent_23 {G : GG} {p : Program} {l : Launch} {e : Jvm.Env} {s : State} {m : MethodId} {args : Array Value} {below : List Frame} {meth : Method} {c : Code} {P : HP → Prop} (hc : VC G p (rmD 8 0) s m args meth c RX12 cX12_putSent 5 8) (hr : meth.sig.returnType = none) {o : Int} {l1 : Int} {l3 : Int} {h : HP} {K68 : Int → Prop} (hK68 : ∀ (x2 : Int), K68 x2 → V G p l e (rmD 8 0) s m args below meth c (MQ below (QV G P) args s 0 0 (va_Aof G)) 5 68 [(22, o), (0, l1), (0, x2), (0, l3), (1, 0)] [] h 0) : ∀ (f : Nat) (l2 : Int) (l4 : Int), wX12_putSent_23 o l1 l3 h K68 f l2 l4 → V G p l e (rmD 8 0) s m args below meth c (MQ below (QV G P) args s 0 0 (va_Aof G)) 5 23 [(22, o), (0, l1), (0, l2), (0, l3), (0, l4)] [] h 0 := by
  intro f
  induction f with
  | zero =>
    intro l2 l4 hw
    exact hw.elim
  | succ f ih =>
    intro l2 l4 hw
    refine V.iload hc dX12_putSent_23 rfl ?_
    refine V.aload_n (t := 12) hc dX12_putSent_25 rfl rfl ?_
    refine V.gR hc gR_X12_91 (i' := o) rfl dX12_putSent_26 ?_
    refine V.iload_n hc dX12_putSent_29 rfl rfl ?_
    obtain ⟨g4, hw⟩ := hw
    refine V.ald hc ak_68 g4 dX12_putSent_30 ?_
    obtain ⟨g5, hw⟩ := hw
    obtain ⟨g6, hw⟩ := hw
    refine V.icmp_ge hc (tgt := 68) dX12_putSent_31 (by decide) g5 g6 (fun c7 => ?_) (fun c7 => ?_)
    · replace hw := hw.1 c7
      refine V.drop (lo' := [(22, o), (0, l1), (0, l2), (0, l3), (1, 0)]) ⟨Or.inr rfl, Or.inr rfl, Or.inr rfl, Or.inr rfl, Or.inl rfl, trivial⟩ ?_
      exact hK68 _ hw
    · replace hw := hw.2 c7
      refine V.iload_n hc dX12_putSent_34 rfl rfl ?_
      obtain ⟨q14, hw⟩ := hw
      have kJ15 : ∀ t13 : Int, ((l2 = 0 → t13 = 0) ∧ (¬ l2 = 0 → ((h 69 o (l3 + l4) = h 67 o l1 → t13 = 0) ∧ (¬ h 69 o (l3 + l4) = h 67 o l1 → t13 = 1)))) → V G p l e (rmD 8 0) s m args below meth c (MQ below (QV G P) args s 0 0 (va_Aof G)) 5 61 [(22, o), (0, l1), (1, 0), (0, l3), (0, l4)] [(0, t13)] h 0 := by
        intro t13 he
        replace hw := hw t13 he
        clear he
        refine V.istore_n hc dX12_putSent_61 rfl rfl (lo' := [(22, o), (0, l1), (0, t13), (0, l3), (0, l4)]) rfl ?_
        refine V.iinc hc dX12_putSent_62 rfl rfl (lo' := [(22, o), (0, l1), (0, t13), (0, l3), (0, l4 + 1)]) rfl ?_
        refine V.goto hc (tgt := 23) dX12_putSent_65 (by decide) ?_
        exact ih _ _ hw
      obtain ⟨g8, q16⟩ := q14
      refine V.if_eq hc (tgt := 60) dX12_putSent_35 (by decide) g8 (fun c17 => ?_) (fun c17 => ?_)
      · refine V.iconst hc dX12_putSent_60 ?_
        refine V.drop (lo' := [(22, o), (0, l1), (1, 0), (0, l3), (0, l4)]) ⟨Or.inr rfl, Or.inr rfl, Or.inl rfl, Or.inr rfl, Or.inr rfl, trivial⟩ ?_
        exact kJ15 _ ⟨fun _ => rfl, (fun q => absurd c17 q)⟩
      · have q18 := q16 c17
        obtain ⟨g9, g10, g11, g12⟩ := q18
        refine V.aload_n (t := 12) hc dX12_putSent_38 rfl rfl ?_
        refine V.gR hc gR_X12_94 (i' := o) rfl dX12_putSent_39 ?_
        refine V.iload_n hc dX12_putSent_42 rfl rfl ?_
        refine V.iload hc dX12_putSent_43 rfl ?_
        refine V.iadd hc dX12_putSent_45 ?_
        refine V.ald hc ak_69 g9 dX12_putSent_46 ?_
        refine V.aload_n (t := 12) hc dX12_putSent_47 rfl rfl ?_
        refine V.gR hc gR_X12_88 (i' := o) rfl dX12_putSent_48 ?_
        refine V.iload_n hc dX12_putSent_51 rfl rfl ?_
        refine V.ald hc ak_67 g10 dX12_putSent_52 ?_
        refine V.icmp_eq hc (tgt := 60) dX12_putSent_53 (by decide) g11 g12 (fun c19 => ?_) (fun c19 => ?_)
        · refine V.iconst hc dX12_putSent_60 ?_
          refine V.drop (lo' := [(22, o), (0, l1), (1, 0), (0, l3), (0, l4)]) ⟨Or.inr rfl, Or.inr rfl, Or.inl rfl, Or.inr rfl, Or.inr rfl, trivial⟩ ?_
          exact kJ15 _ ⟨(fun q => absurd q c17), fun _ => ⟨fun _ => rfl, (fun q => absurd c19 q)⟩⟩
        · refine V.iconst hc dX12_putSent_56 ?_
          refine V.goto hc (tgt := 61) dX12_putSent_57 (by decide) ?_
          refine V.drop (lo' := [(22, o), (0, l1), (1, 0), (0, l3), (0, l4)]) ⟨Or.inr rfl, Or.inr rfl, Or.inl rfl, Or.inr rfl, Or.inr rfl, trivial⟩ ?_
          exact kJ15 _ ⟨(fun q => absurd q c17), fun _ => ⟨(fun q => absurd q c19), fun _ => rfl⟩⟩
theorem tX12_putSent_104 {G : GG} {p : Program} {l : Launch} {e : Jvm.Env} {s : State} {m : MethodId} {args : Array Value} {below : List Frame} {meth : Method} {c : Code} {P : HP → Prop} (hc : VC G p (rmD 8 0) s m args meth c RX12 cX12_putSent 5 8) (hr : meth.sig.returnType = none) {o : Int} {l1 : Int} {h : HP} {K2 : Int → HP → Prop} (hK2 : ∀ (x1 : Int) (h : HP), K2 x1 h → V G p l e (rmD 8 0) s m args below meth c (MQ below (QV G P) args s 0 0 (va_Aof G)) 5 2 [(22, o), (0, x1), (1, 0), (1, 0), (1, 0)] [] h 0) (hw : wX12_putSent_104 o l1 K2 h) : V G p l e (rmD 8 0) s m args below meth c (MQ below (QV G P) args s 0 0 (va_Aof G)) 5 104 [(22, o), (0, l1), (1, 0), (1, 0), (1, 0)] [] h 0 := by
  refine V.iinc hc dX12_putSent_104 rfl rfl (lo' := [(22, o), (0, l1 + 1), (1, 0), (1, 0), (1, 0)]) rfl ?_
  refine V.goto hc (tgt := 2) dX12_putSent_107 (by decide) ?_
  exact hK2 _ _ hw
theorem tX12_putSent_2 {G : GG} {p : Program} {l : Launch} {e : Jvm.Env} {s : State} {m : MethodId} {args : Array Value} {below : List Frame} {meth : Method} {c : Code} {P : HP → Prop} (hc : VC G p (rmD 8 0) s m args meth c RX12 cX12_putSent 5 8) (hr : meth.sig.returnType = none) {o : Int} {K110 : HP → Prop} (hK110 : ∀  (h : HP), K110  h → V G p l e (rmD 8 0) s m args below meth c (MQ below (QV G P) args s 0 0 (va_Aof G)) 5 110 [(1, 0), (1, 0), (1, 0), (1, 0), (1, 0)] [] h 0) : ∀ (f : Nat) (l1 : Int) (h : HP), wX12_putSent_2 o K110 f l1 h → V G p l e (rmD 8 0) s m args below meth c (MQ below (QV G P) args s 0 0 (va_Aof G)) 5 2 [(22, o), (0, l1), (1, 0), (1, 0), (1, 0)] [] h 0 := by
  intro f
  induction f with
  | zero =>
    intro l1 h hw
    exact hw.elim
  | succ f ih =>
    intro l1 h hw
    refine V.iload_n hc dX12_putSent_2 rfl rfl ?_
    refine V.aload_n (t := 12) hc dX12_putSent_3 rfl rfl ?_
    refine V.gR hc gR_X12_21 (i' := o) rfl dX12_putSent_4 ?_
    refine V.iconst hc dX12_putSent_7 ?_
    refine V.ald hc ak_49 (by omega) dX12_putSent_8 ?_
    obtain ⟨g1, hw⟩ := hw
    obtain ⟨g2, hw⟩ := hw
    refine V.icmp_ge hc (tgt := 110) dX12_putSent_9 (by decide) g1 g2 (fun c3 => ?_) (fun c3 => ?_)
    · replace hw := hw.1 c3
      refine V.drop (lo' := [(1, 0), (1, 0), (1, 0), (1, 0), (1, 0)]) ⟨Or.inl rfl, Or.inl rfl, Or.inr rfl, Or.inr rfl, Or.inr rfl, trivial⟩ ?_
      exact hK110 _ hw
    · replace hw := hw.2 c3
      refine V.iconst hc dX12_putSent_12 ?_
      refine V.istore_n hc dX12_putSent_13 rfl rfl (lo' := [(22, o), (0, l1), (0, 1), (1, 0), (1, 0)]) rfl ?_
      refine V.sipush hc dX12_putSent_14 (by decide) ?_
      refine V.iload_n hc dX12_putSent_17 rfl rfl ?_
      refine V.imul hc dX12_putSent_18 ?_
      refine V.istore_n hc dX12_putSent_19 rfl rfl (lo' := [(22, o), (0, l1), (0, 1), (0, 512 * l1), (1, 0)]) rfl ?_
      refine V.iconst hc dX12_putSent_20 ?_
      refine V.istore hc dX12_putSent_21 rfl (lo' := [(22, o), (0, l1), (0, 1), (0, 512 * l1), (0, 0)]) rfl ?_
      obtain ⟨f20, hw⟩ := hw
      refine tX12_putSent_23 hc hr ?_ f20 _ _ hw
      · intro l21 hw
        refine V.iload_n hc dX12_putSent_68 rfl rfl ?_
        obtain ⟨g22, hw⟩ := hw
        refine V.if_ne hc (tgt := 75) dX12_putSent_69 (by decide) g22 (fun c23 => ?_) (fun c23 => ?_)
        · replace hw := hw.1 c23
          refine V.aload_n (t := 12) hc dX12_putSent_75 rfl rfl ?_
          refine V.gR hc gR_X12_94 (i' := o) rfl dX12_putSent_76 ?_
          refine V.iload_n hc dX12_putSent_79 rfl rfl ?_
          refine V.aload_n (t := 12) hc dX12_putSent_80 rfl rfl ?_
          refine V.gR hc gR_X12_91 (i' := o) rfl dX12_putSent_81 ?_
          refine V.iload_n hc dX12_putSent_84 rfl rfl ?_
          obtain ⟨g24, hw⟩ := hw
          refine V.ald hc ak_68 g24 dX12_putSent_85 ?_
          refine V.iadd hc dX12_putSent_86 ?_
          refine V.aload_n (t := 12) hc dX12_putSent_87 rfl rfl ?_
          refine V.gR hc gR_X12_88 (i' := o) rfl dX12_putSent_88 ?_
          refine V.iload_n hc dX12_putSent_91 rfl rfl ?_
          obtain ⟨g25, hw⟩ := hw
          refine V.ald hc ak_67 g25 dX12_putSent_92 ?_
          obtain ⟨g27, hw⟩ := hw
          refine V.ast hc ak_69 g27 dX12_putSent_93 (fun h26 e => ?_)
          replace hw := hw h26 e
          clear e
          refine V.aload_n (t := 12) hc dX12_putSent_94 rfl rfl ?_
          refine V.gR hc gR_X12_91 (i' := o) rfl dX12_putSent_95 ?_
          refine V.iload_n hc dX12_putSent_98 rfl rfl ?_
          refine V.dup2 hc dX12_putSent_99 (by simp) (by simp) ?_
          obtain ⟨g28, hw⟩ := hw
          refine V.ald hc ak_68 g28 dX12_putSent_100 ?_
          refine V.iconst hc dX12_putSent_101 ?_
          refine V.iadd hc dX12_putSent_102 ?_
          obtain ⟨g30, hw⟩ := hw
          refine V.ast hc ak_68 g30 dX12_putSent_103 (fun h29 e => ?_)
          replace hw := hw h29 e
          clear e
          refine V.drop (lo' := [(22, o), (0, l1), (1, 0), (1, 0), (1, 0)]) ⟨Or.inr rfl, Or.inr rfl, Or.inl rfl, Or.inl rfl, Or.inr rfl, trivial⟩ ?_
          exact tX12_putSent_104 hc hr (fun y1 hy hw => by exact ih _ _ hw) hw
        · replace hw := hw.2 c23
          refine V.goto hc (tgt := 104) dX12_putSent_72 (by decide) ?_
          refine V.drop (lo' := [(22, o), (0, l1), (1, 0), (1, 0), (1, 0)]) ⟨Or.inr rfl, Or.inr rfl, Or.inl rfl, Or.inl rfl, Or.inr rfl, trivial⟩ ?_
          exact tX12_putSent_104 hc hr (fun y1 hy hw => by exact ih _ _ hw) hw
theorem qX12_putSent (G : GG) (l : Launch) (o : Int) (h : HP) (P : HP → Prop) (hw : wX12_putSent o h P) : CnV l G yX12_putSent cX12_putSent 5 8 [(22, o)] h P := by
  refine CnV.of (lo := [(22, o), (1, 0), (1, 0), (1, 0), (1, 0)]) (by decide) rfl rfl rfl ?_
  intro p e s m args below meth c hc hr
  have hc : VC G p (rmD 8 0) s m args meth c RX12 cX12_putSent 5 8 := hc
  refine V.iconst hc dX12_putSent_0 ?_
  refine V.istore_n hc dX12_putSent_1 rfl rfl (lo' := [(22, o), (0, 0), (1, 0), (1, 0), (1, 0)]) rfl ?_
  obtain ⟨f31, hw⟩ := hw
  refine tX12_putSent_2 hc hr ?_ f31 _ _ hw
  · intro h32 hw
    exact V.vret hc hr dX12_putSent_110 hw
theorem tX12_tellOthers_12 {G : GG} {p : Program} {l : Launch} {e : Jvm.Env} {s : State} {m : MethodId} {args : Array Value} {below : List Frame} {meth : Method} {c : Code} {P : HP → Prop} (hc : VC G p (rmD 41 0) s m args meth c RX12 cX12_tellOthers 4 41) (hr : meth.sig.returnType = none) {o : Int} {K31 : HP → Prop} (hK31 : ∀  (h : HP), K31  h → V G p l e (rmD 41 0) s m args below meth c (MQ below (QV G P) args s 0 0 (va_Aof G)) 4 31 [(22, o), (1, 0), (1, 0), (1, 0)] [] h 0) : ∀ (f : Nat) (l1 : Int) (h : HP), wX12_tellOthers_12 o K31 f l1 h → V G p l e (rmD 41 0) s m args below meth c (MQ below (QV G P) args s 0 0 (va_Aof G)) 4 12 [(22, o), (0, l1), (1, 0), (1, 0)] [] h 0 := by
  intro f
  induction f with
  | zero =>
    intro l1 h hw
    exact hw.elim
  | succ f ih =>
    intro l1 h hw
    refine V.iload_n hc dX12_tellOthers_12 rfl rfl ?_
    refine V.bipush hc dX12_tellOthers_13 (by decide) ?_
    obtain ⟨g3, hw⟩ := hw
    refine V.icmp_ge hc (tgt := 31) dX12_tellOthers_15 (by decide) g3 (by omega) (fun c4 => ?_) (fun c4 => ?_)
    · replace hw := hw.1 c4
      refine V.drop (lo' := [(22, o), (1, 0), (1, 0), (1, 0)]) ⟨Or.inr rfl, Or.inl rfl, Or.inr rfl, Or.inr rfl, trivial⟩ ?_
      exact hK31 _ hw
    · replace hw := hw.2 c4
      refine V.aload_n (t := 12) hc dX12_tellOthers_18 rfl rfl ?_
      refine V.gR hc gR_X12_91 (i' := o) rfl dX12_tellOthers_19 ?_
      refine V.iload_n hc dX12_tellOthers_22 rfl rfl ?_
      refine V.iconst hc dX12_tellOthers_23 ?_
      obtain ⟨g6, hw⟩ := hw
      refine V.ast hc ak_68 g6 dX12_tellOthers_24 (fun h5 e => ?_)
      replace hw := hw h5 e
      clear e
      refine V.iinc hc dX12_tellOthers_25 rfl rfl (lo' := [(22, o), (0, l1 + 1), (1, 0), (1, 0)]) rfl ?_
      refine V.goto hc (tgt := 12) dX12_tellOthers_28 (by decide) ?_
      exact ih _ _ hw
theorem tX12_tellOthers_127 {G : GG} {p : Program} {l : Launch} {e : Jvm.Env} {s : State} {m : MethodId} {args : Array Value} {below : List Frame} {meth : Method} {c : Code} {P : HP → Prop} (hc : VC G p (rmD 41 0) s m args meth c RX12 cX12_tellOthers 4 41) (hr : meth.sig.returnType = none) {o : Int} {l1 : Int} {l2 : Int} {l3 : Int} {h : HP} {K60 : Int → HP → Prop} (hK60 : ∀ (x3 : Int) (h : HP), K60 x3 h → V G p l e (rmD 41 0) s m args below meth c (MQ below (QV G P) args s 0 0 (va_Aof G)) 4 60 [(22, o), (0, l1), (0, l2), (0, x3)] [] h 0) (hw : wX12_tellOthers_127 o l1 l2 l3 K60 h) : V G p l e (rmD 41 0) s m args below meth c (MQ below (QV G P) args s 0 0 (va_Aof G)) 4 127 [(22, o), (0, l1), (0, l2), (0, l3)] [] h 0 := by
  refine V.iinc hc dX12_tellOthers_127 rfl rfl (lo' := [(22, o), (0, l1), (0, l2), (0, l3 + 1)]) rfl ?_
  refine V.goto hc (tgt := 60) dX12_tellOthers_130 (by decide) ?_
  exact hK60 _ _ hw
theorem tX12_tellOthers_123 {G : GG} {p : Program} {l : Launch} {e : Jvm.Env} {s : State} {m : MethodId} {args : Array Value} {below : List Frame} {meth : Method} {c : Code} {P : HP → Prop} (hc : VC G p (rmD 41 0) s m args meth c RX12 cX12_tellOthers 4 41) (hr : meth.sig.returnType = none) {o : Int} {l1 : Int} {l2 : Int} {l3 : Int} {h : HP} {K60 : Int → HP → Prop} (hK60 : ∀ (x3 : Int) (h : HP), K60 x3 h → V G p l e (rmD 41 0) s m args below meth c (MQ below (QV G P) args s 0 0 (va_Aof G)) 4 60 [(22, o), (0, l1), (0, l2), (0, x3)] [] h 0) (hw : wX12_tellOthers_123 o l1 l2 l3 K60 h) : V G p l e (rmD 41 0) s m args below meth c (MQ below (QV G P) args s 0 0 (va_Aof G)) 4 123 [(22, o), (0, l1), (0, l2), (0, l3)] [] h 0 := by
  refine V.aload_n (t := 12) hc dX12_tellOthers_123 rfl rfl ?_
  refine V.callVV hc (qX12_putSent G l _ _ _ hw) mo_X12_putSent ml_X12_427 (by rfl) rfl rfl (as := []) rfl rfl rfl rfl rfl ⟨Nat.zero_le _, Nat.zero_le _⟩ dX12_tellOthers_124 (fun h28 hw => ?_)
  exact tX12_tellOthers_127 hc hr (fun y3 hy hw => by exact hK60 _ _ hw) hw
theorem tX12_tellOthers_60 {G : GG} {p : Program} {l : Launch} {e : Jvm.Env} {s : State} {m : MethodId} {args : Array Value} {below : List Frame} {meth : Method} {c : Code} {P : HP → Prop} (hc : VC G p (rmD 41 0) s m args meth c RX12 cX12_tellOthers 4 41) (hr : meth.sig.returnType = none) {o : Int} {l1 : Int} {l2 : Int} {K133 : HP → Prop} (hK133 : ∀  (h : HP), K133  h → V G p l e (rmD 41 0) s m args below meth c (MQ below (QV G P) args s 0 0 (va_Aof G)) 4 133 [(22, o), (0, l1), (1, 0), (1, 0)] [] h 0) : ∀ (f : Nat) (l3 : Int) (h : HP), wX12_tellOthers_60 o l1 l2 K133 f l3 h → V G p l e (rmD 41 0) s m args below meth c (MQ below (QV G P) args s 0 0 (va_Aof G)) 4 60 [(22, o), (0, l1), (0, l2), (0, l3)] [] h 0 := by
  intro f
  induction f with
  | zero =>
    intro l3 h hw
    exact hw.elim
  | succ f ih =>
    intro l3 h hw
    refine V.iload_n hc dX12_tellOthers_60 rfl rfl ?_
    refine V.bipush hc dX12_tellOthers_61 (by decide) ?_
    obtain ⟨g14, hw⟩ := hw
    refine V.icmp_gt hc (tgt := 133) dX12_tellOthers_63 (by decide) g14 (by omega) (fun c15 => ?_) (fun c15 => ?_)
    · replace hw := hw.1 c15
      refine V.drop (lo' := [(22, o), (0, l1), (1, 0), (1, 0)]) ⟨Or.inr rfl, Or.inr rfl, Or.inl rfl, Or.inl rfl, trivial⟩ ?_
      exact hK133 _ hw
    · replace hw := hw.2 c15
      refine V.iload_n hc dX12_tellOthers_66 rfl rfl ?_
      refine V.iload_n hc dX12_tellOthers_67 rfl rfl ?_
      obtain ⟨g16, hw⟩ := hw
      obtain ⟨g17, hw⟩ := hw
      refine V.icmp_ne hc (tgt := 74) dX12_tellOthers_68 (by decide) g16 g17 (fun c18 => ?_) (fun c18 => ?_)
      · replace hw := hw.1 c18
        refine V.aload_n (t := 12) hc dX12_tellOthers_74 rfl rfl ?_
        refine V.gR hc gR_X12_43 (i' := o) rfl dX12_tellOthers_75 ?_
        refine V.sipush hc dX12_tellOthers_78 (by decide) ?_
        refine V.iload_n hc dX12_tellOthers_81 rfl rfl ?_
        refine V.iadd hc dX12_tellOthers_82 ?_
        refine V.iload_n hc dX12_tellOthers_83 rfl rfl ?_
        obtain ⟨g20, hw⟩ := hw
        refine V.ast hc ak_56 g20 dX12_tellOthers_84 (fun h19 e => ?_)
        replace hw := hw h19 e
        clear e
        refine V.aload_n (t := 12) hc dX12_tellOthers_85 rfl rfl ?_
        refine V.callVI hc (qX12_isAsNoted G l _ _ _ hw) mo_X12_isAsNoted ml_X12_423 (by rfl) rfl rfl (as := []) rfl rfl rfl rfl rfl ⟨Nat.zero_le _, Nat.zero_le _⟩ dX12_tellOthers_86 (fun x22 h21 hw => ?_)
        obtain ⟨g23, hw⟩ := hw
        refine V.if_ne hc (tgt := 95) dX12_tellOthers_89 (by decide) g23 (fun c24 => ?_) (fun c24 => ?_)
        · replace hw := hw.1 c24
          refine V.aload_n (t := 12) hc dX12_tellOthers_95 rfl rfl ?_
          refine V.dup hc dX12_tellOthers_96 (by simp) ?_
          refine V.gI hc gI_X12_417 rfl dX12_tellOthers_97 ?_
          refine V.iconst hc dX12_tellOthers_100 ?_
          refine V.iadd hc dX12_tellOthers_101 ?_
          refine V.pI hc pI_X12_417 rfl dX12_tellOthers_102 (fun h25 e => ?_)
          replace hw := hw h25 e
          clear e
          refine V.aload_n (t := 12) hc dX12_tellOthers_105 rfl rfl ?_
          refine V.gI hc gI_X12_420 rfl dX12_tellOthers_106 ?_
          refine V.iconst hc dX12_tellOthers_109 ?_
          obtain ⟨g26, hw⟩ := hw
          refine V.icmp_ne hc (tgt := 123) dX12_tellOthers_110 (by decide) g26 (by omega) (fun c27 => ?_) (fun c27 => ?_)
          · replace hw := hw.1 c27
            exact tX12_tellOthers_123 hc hr (fun y3 hy hw => by exact ih _ _ hw) hw
          · replace hw := hw.2 c27
            refine V.aload_n (t := 12) hc dX12_tellOthers_113 rfl rfl ?_
            refine V.bipush hc dX12_tellOthers_114 (by decide) ?_
            refine V.iload_n hc dX12_tellOthers_116 rfl rfl ?_
            refine V.imul hc dX12_tellOthers_117 ?_
            refine V.iload_n hc dX12_tellOthers_118 rfl rfl ?_
            refine V.iadd hc dX12_tellOthers_119 ?_
            refine V.pI hc pI_X12_420 rfl dX12_tellOthers_120 (fun h29 e => ?_)
            replace hw := hw h29 e
            clear e
            exact tX12_tellOthers_123 hc hr (fun y3 hy hw => by exact ih _ _ hw) hw
        · replace hw := hw.2 c24
          refine V.goto hc (tgt := 127) dX12_tellOthers_92 (by decide) ?_
          exact tX12_tellOthers_127 hc hr (fun y3 hy hw => by exact ih _ _ hw) hw
      · replace hw := hw.2 c18
        refine V.goto hc (tgt := 127) dX12_tellOthers_71 (by decide) ?_
        exact tX12_tellOthers_127 hc hr (fun y3 hy hw => by exact ih _ _ hw) hw
theorem tX12_tellOthers_37 {G : GG} {p : Program} {l : Launch} {e : Jvm.Env} {s : State} {m : MethodId} {args : Array Value} {below : List Frame} {meth : Method} {c : Code} {P : HP → Prop} (hc : VC G p (rmD 41 0) s m args meth c RX12 cX12_tellOthers 4 41) (hr : meth.sig.returnType = none) {o : Int} {K139 : HP → Prop} (hK139 : ∀  (h : HP), K139  h → V G p l e (rmD 41 0) s m args below meth c (MQ below (QV G P) args s 0 0 (va_Aof G)) 4 139 [(1, 0), (1, 0), (1, 0), (1, 0)] [] h 0) : ∀ (f : Nat) (l1 : Int) (h : HP), wX12_tellOthers_37 o K139 f l1 h → V G p l e (rmD 41 0) s m args below meth c (MQ below (QV G P) args s 0 0 (va_Aof G)) 4 37 [(22, o), (0, l1), (1, 0), (1, 0)] [] h 0 := by
  intro f
  induction f with
  | zero =>
    intro l1 h hw
    exact hw.elim
  | succ f ih =>
    intro l1 h hw
    refine V.iload_n hc dX12_tellOthers_37 rfl rfl ?_
    refine V.aload_n (t := 12) hc dX12_tellOthers_38 rfl rfl ?_
    refine V.gR hc gR_X12_21 (i' := o) rfl dX12_tellOthers_39 ?_
    refine V.iconst hc dX12_tellOthers_42 ?_
    refine V.ald hc ak_49 (by omega) dX12_tellOthers_43 ?_
    obtain ⟨g10, hw⟩ := hw
    obtain ⟨g11, hw⟩ := hw
    refine V.icmp_ge hc (tgt := 139) dX12_tellOthers_44 (by decide) g10 g11 (fun c12 => ?_) (fun c12 => ?_)
    · replace hw := hw.1 c12
      refine V.drop (lo' := [(1, 0), (1, 0), (1, 0), (1, 0)]) ⟨Or.inl rfl, Or.inl rfl, Or.inr rfl, Or.inr rfl, trivial⟩ ?_
      exact hK139 _ hw
    · replace hw := hw.2 c12
      refine V.aload_n (t := 12) hc dX12_tellOthers_47 rfl rfl ?_
      refine V.gR hc gR_X12_43 (i' := o) rfl dX12_tellOthers_48 ?_
      refine V.sipush hc dX12_tellOthers_51 (by decide) ?_
      refine V.iload_n hc dX12_tellOthers_54 rfl rfl ?_
      refine V.iadd hc dX12_tellOthers_55 ?_
      obtain ⟨g13, hw⟩ := hw
      refine V.ald hc ak_56 g13 dX12_tellOthers_56 ?_
      refine V.istore_n hc dX12_tellOthers_57 rfl rfl (lo' := [(22, o), (0, l1), (0, h 56 o (3091 + l1)), (1, 0)]) rfl ?_
      refine V.iconst hc dX12_tellOthers_58 ?_
      refine V.istore_n hc dX12_tellOthers_59 rfl rfl (lo' := [(22, o), (0, l1), (0, h 56 o (3091 + l1)), (0, 1)]) rfl ?_
      obtain ⟨f30, hw⟩ := hw
      refine tX12_tellOthers_60 hc hr ?_ f30 _ _ hw
      · intro h31 hw
        refine V.iinc hc dX12_tellOthers_133 rfl rfl (lo' := [(22, o), (0, l1 + 1), (1, 0), (1, 0)]) rfl ?_
        refine V.goto hc (tgt := 37) dX12_tellOthers_136 (by decide) ?_
        exact ih _ _ hw
theorem qX12_tellOthers (G : GG) (l : Launch) (o : Int) (h : HP) (P : HP → Prop) (hw : wX12_tellOthers o h P) : CnV l G yX12_tellOthers cX12_tellOthers 4 41 [(22, o)] h P := by
  refine CnV.of (lo := [(22, o), (1, 0), (1, 0), (1, 0)]) (by decide) rfl rfl rfl ?_
  intro p e s m args below meth c hc hr
  have hc : VC G p (rmD 41 0) s m args meth c RX12 cX12_tellOthers 4 41 := hc
  refine V.aload_n (t := 12) hc dX12_tellOthers_0 rfl rfl ?_
  refine V.iconst hc dX12_tellOthers_1 ?_
  refine V.pI hc pI_X12_417 rfl dX12_tellOthers_2 (fun h1 e => ?_)
  replace hw := hw h1 e
  clear e
  refine V.aload_n (t := 12) hc dX12_tellOthers_5 rfl rfl ?_
  refine V.iconst hc dX12_tellOthers_6 ?_
  refine V.pI hc pI_X12_420 rfl dX12_tellOthers_7 (fun h2 e => ?_)
  replace hw := hw h2 e
  clear e
  refine V.iconst hc dX12_tellOthers_10 ?_
  refine V.istore_n hc dX12_tellOthers_11 rfl rfl (lo' := [(22, o), (0, 0), (1, 0), (1, 0)]) rfl ?_
  obtain ⟨f7, hw⟩ := hw
  refine tX12_tellOthers_12 hc hr ?_ f7 _ _ hw
  · intro h8 hw
    refine V.aload_n (t := 12) hc dX12_tellOthers_31 rfl rfl ?_
    refine V.callVV hc (qX12_rememberNow G l _ _ _ hw) mo_X12_rememberNow ml_X12_402 (by rfl) rfl rfl (as := []) rfl rfl rfl rfl rfl ⟨Nat.zero_le _, Nat.zero_le _⟩ dX12_tellOthers_32 (fun h9 hw => ?_)
    refine V.iconst hc dX12_tellOthers_35 ?_
    refine V.istore_n hc dX12_tellOthers_36 rfl rfl (lo' := [(22, o), (0, 0), (1, 0), (1, 0)]) rfl ?_
    obtain ⟨f32, hw⟩ := hw
    refine tX12_tellOthers_37 hc hr ?_ f32 _ _ hw
    · intro h33 hw
      exact V.vret hc hr dX12_tellOthers_139 hw
theorem qX12_other (G : GG) (l : Launch) (o : Int) (a1 : Int) (h : HP) (P : Int → HP → Prop) (hw : wX12_other o a1 h P) : CnI l G yX12_other cX12_other 2 (some .int) 42 [(22, o), (0, a1)] h P := by
  refine CnI.of (lo := [(22, o), (0, a1)]) (by decide) rfl rfl rfl ?_
  intro p e s m args below meth c hc hr
  have hc : VC G p (rmD 42 0) s m args meth c RX12 cX12_other 2 42 := hc
  refine V.aload_n (t := 12) hc dX12_other_0 rfl rfl ?_
  refine V.iconst hc dX12_other_1 ?_
  refine V.pI hc pI_X12_118 rfl dX12_other_2 (fun h1 e => ?_)
  replace hw := hw h1 e
  clear e
  refine V.iload_n hc dX12_other_5 rfl rfl ?_
  refine V.iconst hc dX12_other_6 ?_
  refine V.iconst hc dX12_other_7 ?_
  refine V.callSI hc (qX12_isIn G l _ _ _ _ _ hw) mo_X12_isIn ml_X12_356 (as := [(0, a1), (0, 0), (0, 2)]) rfl rfl rfl rfl rfl ⟨Nat.zero_le _, Nat.zero_le _⟩ dX12_other_8 (fun x3 h2 hw => ?_)
  obtain ⟨g4, hw⟩ := hw
  refine V.if_ne hc (tgt := 20) dX12_other_11 (by decide) g4 (fun c5 => ?_) (fun c5 => ?_)
  · replace hw := hw.1 c5
    refine V.iload_n hc dX12_other_20 rfl rfl ?_
    refine V.iconst hc dX12_other_21 ?_
    obtain ⟨g6, hw⟩ := hw
    refine V.icmp_ne hc (tgt := 42) dX12_other_22 (by decide) g6 (by omega) (fun c7 => ?_) (fun c7 => ?_)
    · replace hw := hw.1 c7
      refine V.aload_n (t := 12) hc dX12_other_42 rfl rfl ?_
      refine V.callVV hc (qX12_tellOthers G l _ _ _ hw) mo_X12_tellOthers ml_X12_430 (by rfl) rfl rfl (as := []) rfl rfl rfl rfl rfl ⟨Nat.zero_le _, Nat.zero_le _⟩ dX12_other_43 (fun h8 hw => ?_)
      refine V.iload_n hc dX12_other_46 rfl rfl ?_
      obtain ⟨q11, hw⟩ := hw
      have kJ12 : ∀ t10 : Int, ((¬ a1 = 0 → t10 = h8 12 o 44) ∧ (a1 = 0 → t10 = h8 12 o 43)) → V G p l e (rmD 42 0) s m args below meth c (MQ below (QI G P) args s 0 0 (va_Aof G)) 2 61 [(1, 0), (1, 0)] [(0, t10)] h8 0 := by
        intro t10 he
        replace hw := hw t10 he
        clear he
        exact V.iret hc hr dX12_other_61 hw
      have g9 := q11
      refine V.if_ne hc (tgt := 57) dX12_other_47 (by decide) g9 (fun c13 => ?_) (fun c13 => ?_)
      · refine V.aload_n (t := 12) hc dX12_other_57 rfl rfl ?_
        refine V.gI hc gI_X12_420 rfl dX12_other_58 ?_
        refine V.drop (lo' := [(1, 0), (1, 0)]) ⟨Or.inl rfl, Or.inl rfl, trivial⟩ ?_
        exact kJ12 _ ⟨fun _ => rfl, (fun q => absurd q c13)⟩
      · refine V.aload_n (t := 12) hc dX12_other_50 rfl rfl ?_
        refine V.gI hc gI_X12_417 rfl dX12_other_51 ?_
        refine V.goto hc (tgt := 61) dX12_other_54 (by decide) ?_
        refine V.drop (lo' := [(1, 0), (1, 0)]) ⟨Or.inl rfl, Or.inl rfl, trivial⟩ ?_
        exact kJ12 _ ⟨(fun q => absurd c13 q), fun _ => rfl⟩
    · replace hw := hw.2 c7
      refine V.aload_n (t := 12) hc dX12_other_25 rfl rfl ?_
      refine V.callVV hc (qX12_rememberNow G l _ _ _ hw) mo_X12_rememberNow ml_X12_402 (by rfl) rfl rfl (as := []) rfl rfl rfl rfl rfl ⟨Nat.zero_le _, Nat.zero_le _⟩ dX12_other_26 (fun h14 hw => ?_)
      refine V.aload_n (t := 12) hc dX12_other_29 rfl rfl ?_
      refine V.callVI hc (qX12_isAsNoted G l _ _ _ hw) mo_X12_isAsNoted ml_X12_423 (by rfl) rfl rfl (as := []) rfl rfl rfl rfl rfl ⟨Nat.zero_le _, Nat.zero_le _⟩ dX12_other_30 (fun x16 h15 hw => ?_)
      obtain ⟨q19, hw⟩ := hw
      have kJ20 : ∀ t18 : Int, ((x16 = 0 → t18 = 0) ∧ (¬ x16 = 0 → t18 = 1)) → V G p l e (rmD 42 0) s m args below meth c (MQ below (QI G P) args s 0 0 (va_Aof G)) 2 41 [(1, 0), (1, 0)] [(0, t18)] h15 0 := by
        intro t18 he
        replace hw := hw t18 he
        clear he
        exact V.iret hc hr dX12_other_41 hw
      have g17 := q19
      refine V.if_eq hc (tgt := 40) dX12_other_33 (by decide) g17 (fun c21 => ?_) (fun c21 => ?_)
      · refine V.iconst hc dX12_other_40 ?_
        refine V.drop (lo' := [(1, 0), (1, 0)]) ⟨Or.inl rfl, Or.inl rfl, trivial⟩ ?_
        exact kJ20 _ ⟨fun _ => rfl, (fun q => absurd c21 q)⟩
      · refine V.iconst hc dX12_other_36 ?_
        refine V.goto hc (tgt := 41) dX12_other_37 (by decide) ?_
        refine V.drop (lo' := [(1, 0), (1, 0)]) ⟨Or.inl rfl, Or.inl rfl, trivial⟩ ?_
        exact kJ20 _ ⟨(fun q => absurd q c21), fun _ => rfl⟩
  · replace hw := hw.2 c5
    refine V.aload_n (t := 12) hc dX12_other_14 rfl rfl ?_
    refine V.iconst hc dX12_other_15 ?_
    refine V.callVI hc (qX12_fail G l _ _ _ _ hw) mo_X12_fail ml_X12_219 (by rfl) rfl rfl (as := [(0, 1)]) rfl rfl rfl rfl rfl ⟨Nat.zero_le _, Nat.zero_le _⟩ dX12_other_16 (fun x23 h22 hw => ?_)
    exact V.iret hc hr dX12_other_19 hw
theorem tX12_look_31 {G : GG} {p : Program} {l : Launch} {e : Jvm.Env} {s : State} {m : MethodId} {args : Array Value} {below : List Frame} {meth : Method} {c : Code} {P : Int → HP → Prop} (hc : VC G p (rmD 42 0) s m args meth c RX12 cX12_look 5 42) (hr : meth.sig.returnType = some .int) {o : Int} {a1 : Int} {h : HP} {K73 : Int → Int → Prop} (hK73 : ∀ (x2 : Int) (x3 : Int), K73 x2 x3 → V G p l e (rmD 42 0) s m args below meth c (MQ below (QI G P) args s 0 0 (va_Aof G)) 5 73 [(1, 0), (0, a1), (0, x2), (0, x3), (1, 0)] [] h 0) : ∀ (f : Nat) (l2 : Int) (l3 : Int) (l4 : Int), wX12_look_31 o a1 h K73 f l2 l3 l4 → V G p l e (rmD 42 0) s m args below meth c (MQ below (QI G P) args s 0 0 (va_Aof G)) 5 31 [(22, o), (0, a1), (0, l2), (0, l3), (0, l4)] [] h 0 := by
  intro f
  induction f with
  | zero =>
    intro l2 l3 l4 hw
    exact hw.elim
  | succ f ih =>
    intro l2 l3 l4 hw
    refine V.iload hc dX12_look_31 rfl ?_
    refine V.aload_n (t := 12) hc dX12_look_33 rfl rfl ?_
    refine V.gR hc gR_X12_21 (i' := o) rfl dX12_look_34 ?_
    refine V.iconst hc dX12_look_37 ?_
    refine V.ald hc ak_49 (by omega) dX12_look_38 ?_
    obtain ⟨g7, hw⟩ := hw
    obtain ⟨g8, hw⟩ := hw
    refine V.icmp_ge hc (tgt := 73) dX12_look_39 (by decide) g7 g8 (fun c9 => ?_) (fun c9 => ?_)
    · replace hw := hw.1 c9
      refine V.drop (lo' := [(1, 0), (0, a1), (0, l2), (0, l3), (1, 0)]) ⟨Or.inl rfl, Or.inr rfl, Or.inr rfl, Or.inr rfl, Or.inl rfl, trivial⟩ ?_
      exact hK73 _ _ hw
    · replace hw := hw.2 c9
      refine V.aload_n (t := 12) hc dX12_look_42 rfl rfl ?_
      refine V.gR hc gR_X12_91 (i' := o) rfl dX12_look_43 ?_
      refine V.iload hc dX12_look_46 rfl ?_
      obtain ⟨g10, hw⟩ := hw
      refine V.ald hc ak_68 g10 dX12_look_48 ?_
      refine V.iload_n hc dX12_look_49 rfl rfl ?_
      obtain ⟨q16, hw⟩ := hw
      have kJ17 : ∀ t14 t15 : Int, ((l3 < h 68 o l4 → (t14 = l4 ∧ t15 = h 68 o l4)) ∧ (¬ l3 < h 68 o l4 → (t14 = l2 ∧ t15 = l3))) → V G p l e (rmD 42 0) s m args below meth c (MQ below (QI G P) args s 0 0 (va_Aof G)) 5 67 [(22, o), (0, a1), (0, t14), (0, t15), (0, l4)] [] h 0 := by
        intro t14 t15 he
        replace hw := hw t14 t15 he
        clear he
        refine V.iinc hc dX12_look_67 rfl rfl (lo' := [(22, o), (0, a1), (0, t14), (0, t15), (0, l4 + 1)]) rfl ?_
        refine V.goto hc (tgt := 31) dX12_look_70 (by decide) ?_
        exact ih _ _ _ hw
      obtain ⟨g11, g12, q18⟩ := q16
      refine V.icmp_gt hc (tgt := 56) dX12_look_50 (by decide) g11 g12 (fun c19 => ?_) (fun c19 => ?_)
      · have q20 := q18 c19
        have g13 := q20
        refine V.iload hc dX12_look_56 rfl ?_
        refine V.istore_n hc dX12_look_58 rfl rfl (lo' := [(22, o), (0, a1), (0, l4), (0, l3), (0, l4)]) rfl ?_
        refine V.aload_n (t := 12) hc dX12_look_59 rfl rfl ?_
        refine V.gR hc gR_X12_91 (i' := o) rfl dX12_look_60 ?_
        refine V.iload hc dX12_look_63 rfl ?_
        refine V.ald hc ak_68 g13 dX12_look_65 ?_
        refine V.istore_n hc dX12_look_66 rfl rfl (lo' := [(22, o), (0, a1), (0, l4), (0, h 68 o l4), (0, l4)]) rfl ?_
        exact kJ17 _ _ ⟨fun _ => ⟨rfl, rfl⟩, (fun q => absurd c19 q)⟩
      · refine V.goto hc (tgt := 67) dX12_look_53 (by decide) ?_
        exact kJ17 _ _ ⟨(fun q => absurd q c19), fun _ => ⟨rfl, rfl⟩⟩
theorem qX12_look (G : GG) (l : Launch) (o : Int) (a1 : Int) (h : HP) (P : Int → HP → Prop) (hw : wX12_look o a1 h P) : CnI l G yX12_look cX12_look 5 (some .int) 42 [(22, o), (0, a1)] h P := by
  refine CnI.of (lo := [(22, o), (0, a1), (1, 0), (1, 0), (1, 0)]) (by decide) rfl rfl rfl ?_
  intro p e s m args below meth c hc hr
  have hc : VC G p (rmD 42 0) s m args meth c RX12 cX12_look 5 42 := hc
  refine V.aload_n (t := 12) hc dX12_look_0 rfl rfl ?_
  refine V.iconst hc dX12_look_1 ?_
  refine V.pI hc pI_X12_118 rfl dX12_look_2 (fun h1 e => ?_)
  replace hw := hw h1 e
  clear e
  refine V.iload_n hc dX12_look_5 rfl rfl ?_
  refine V.iconst hc dX12_look_6 ?_
  refine V.iconst hc dX12_look_7 ?_
  refine V.callSI hc (qX12_isIn G l _ _ _ _ _ hw) mo_X12_isIn ml_X12_356 (as := [(0, a1), (0, 0), (0, 1)]) rfl rfl rfl rfl rfl ⟨Nat.zero_le _, Nat.zero_le _⟩ dX12_look_8 (fun x3 h2 hw => ?_)
  obtain ⟨g4, hw⟩ := hw
  refine V.if_ne hc (tgt := 20) dX12_look_11 (by decide) g4 (fun c5 => ?_) (fun c5 => ?_)
  · replace hw := hw.1 c5
    refine V.aload_n (t := 12) hc dX12_look_20 rfl rfl ?_
    refine V.callVV hc (qX12_tellOthers G l _ _ _ hw) mo_X12_tellOthers ml_X12_430 (by rfl) rfl rfl (as := []) rfl rfl rfl rfl rfl ⟨Nat.zero_le _, Nat.zero_le _⟩ dX12_look_21 (fun h6 hw => ?_)
    refine V.iconst hc dX12_look_24 ?_
    refine V.istore_n hc dX12_look_25 rfl rfl (lo' := [(22, o), (0, a1), (0, (-1)), (1, 0), (1, 0)]) rfl ?_
    refine V.iconst hc dX12_look_26 ?_
    refine V.istore_n hc dX12_look_27 rfl rfl (lo' := [(22, o), (0, a1), (0, (-1)), (0, 0), (1, 0)]) rfl ?_
    refine V.iconst hc dX12_look_28 ?_
    refine V.istore hc dX12_look_29 rfl (lo' := [(22, o), (0, a1), (0, (-1)), (0, 0), (0, 0)]) rfl ?_
    obtain ⟨f21, hw⟩ := hw
    refine tX12_look_31 hc hr ?_ f21 _ _ _ hw
    · intro l22 l23 hw
      refine V.iload_n hc dX12_look_73 rfl rfl ?_
      obtain ⟨q26, hw⟩ := hw
      have kJ27 : ∀ t25 : Int, ((¬ a1 = 0 → t25 = l23) ∧ (a1 = 0 → t25 = l22)) → V G p l e (rmD 42 0) s m args below meth c (MQ below (QI G P) args s 0 0 (va_Aof G)) 5 82 [(1, 0), (1, 0), (1, 0), (1, 0), (1, 0)] [(0, t25)] h6 0 := by
        intro t25 he
        replace hw := hw t25 he
        clear he
        exact V.iret hc hr dX12_look_82 hw
      have g24 := q26
      refine V.if_ne hc (tgt := 81) dX12_look_74 (by decide) g24 (fun c28 => ?_) (fun c28 => ?_)
      · refine V.iload_n hc dX12_look_81 rfl rfl ?_
        refine V.drop (lo' := [(1, 0), (1, 0), (1, 0), (1, 0), (1, 0)]) ⟨Or.inr rfl, Or.inl rfl, Or.inl rfl, Or.inl rfl, Or.inr rfl, trivial⟩ ?_
        exact kJ27 _ ⟨fun _ => rfl, (fun q => absurd q c28)⟩
      · refine V.iload_n hc dX12_look_77 rfl rfl ?_
        refine V.goto hc (tgt := 82) dX12_look_78 (by decide) ?_
        refine V.drop (lo' := [(1, 0), (1, 0), (1, 0), (1, 0), (1, 0)]) ⟨Or.inr rfl, Or.inl rfl, Or.inl rfl, Or.inl rfl, Or.inr rfl, trivial⟩ ?_
        exact kJ27 _ ⟨(fun q => absurd c28 q), fun _ => rfl⟩
  · replace hw := hw.2 c5
    refine V.aload_n (t := 12) hc dX12_look_14 rfl rfl ?_
    refine V.iconst hc dX12_look_15 ?_
    refine V.callVI hc (qX12_fail G l _ _ _ _ hw) mo_X12_fail ml_X12_219 (by rfl) rfl rfl (as := [(0, 1)]) rfl rfl rfl rfl rfl ⟨Nat.zero_le _, Nat.zero_le _⟩ dX12_look_16 (fun x30 h29 hw => ?_)
    exact V.iret hc hr dX12_look_19 hw
theorem tX12_storms_81 {G : GG} {p : Program} {l : Launch} {e : Jvm.Env} {s : State} {m : MethodId} {args : Array Value} {below : List Frame} {meth : Method} {c : Code} {P : Int → HP → Prop} (hc : VC G p (rmD 41 0) s m args meth c RX12 cX12_storms 9 41) (hr : meth.sig.returnType = some .int) {o : Int} {a1 : Int} {a2 : Int} {a3 : Int} {a4 : Int} {l5 : Int} {l6 : Int} {h : HP} {K117 : Int → Prop} (hK117 : ∀ (x7 : Int), K117 x7 → V G p l e (rmD 41 0) s m args below meth c (MQ below (QI G P) args s 0 0 (va_Aof G)) 9 117 [(22, o), (1, 0), (0, a2), (0, a3), (0, a4), (0, l5), (0, l6), (0, x7), (1, 0)] [] h 0) : ∀ (f : Nat) (l7 : Int) (l8 : Int), wX12_storms_81 o a1 a2 a3 a4 l5 l6 h K117 f l7 l8 → V G p l e (rmD 41 0) s m args below meth c (MQ below (QI G P) args s 0 0 (va_Aof G)) 9 81 [(22, o), (1, 0), (0, a2), (0, a3), (0, a4), (0, l5), (0, l6), (0, l7), (0, l8)] [] h 0 := by
  intro f
  induction f with
  | zero =>
    intro l7 l8 hw
    exact hw.elim
  | succ f ih =>
    intro l7 l8 hw
    refine V.iload hc dX12_storms_81 rfl ?_
    refine V.iload_n hc dX12_storms_83 rfl rfl ?_
    obtain ⟨g21, hw⟩ := hw
    obtain ⟨g22, hw⟩ := hw
    refine V.icmp_ge hc (tgt := 117) dX12_storms_84 (by decide) g21 g22 (fun c23 => ?_) (fun c23 => ?_)
    · replace hw := hw.1 c23
      refine V.drop (lo' := [(22, o), (1, 0), (0, a2), (0, a3), (0, a4), (0, l5), (0, l6), (0, l7), (1, 0)]) ⟨Or.inr rfl, Or.inr rfl, Or.inr rfl, Or.inr rfl, Or.inr rfl, Or.inr rfl, Or.inr rfl, Or.inr rfl, Or.inl rfl, trivial⟩ ?_
      exact hK117 _ hw
    · replace hw := hw.2 c23
      refine V.iload hc dX12_storms_87 rfl ?_
      refine V.iload hc dX12_storms_89 rfl ?_
      refine V.iload hc dX12_storms_91 rfl ?_
      refine V.ishr hc dX12_storms_93 ?_
      refine V.iconst hc dX12_storms_94 ?_
      refine V.iand hc dX12_storms_95 ?_
      refine V.iconst hc dX12_storms_96 ?_
      obtain ⟨q26, hw⟩ := hw
      have kJ27 : ∀ t25 : Int, ((¬ bAnd (bShr l6 l8) 1 = 1 → t25 = 10 - a3) ∧ (bAnd (bShr l6 l8) 1 = 1 → t25 = a3)) → V G p l e (rmD 41 0) s m args below meth c (MQ below (QI G P) args s 0 0 (va_Aof G)) 9 108 [(22, o), (1, 0), (0, a2), (0, a3), (0, a4), (0, l5), (0, l6), (1, 0), (0, l8)] [(0, t25), (0, l7)] h 0 := by
        intro t25 he
        replace hw := hw t25 he
        clear he
        refine V.imul hc dX12_storms_108 ?_
        refine V.istore hc dX12_storms_109 rfl (lo' := [(22, o), (1, 0), (0, a2), (0, a3), (0, a4), (0, l5), (0, l6), (0, l7 * t25), (0, l8)]) rfl ?_
        refine V.iinc hc dX12_storms_111 rfl rfl (lo' := [(22, o), (1, 0), (0, a2), (0, a3), (0, a4), (0, l5), (0, l6), (0, l7 * t25), (0, l8 + 1)]) rfl ?_
        refine V.goto hc (tgt := 81) dX12_storms_114 (by decide) ?_
        exact ih _ _ hw
      have g24 := q26
      refine V.icmp_ne hc (tgt := 104) dX12_storms_97 (by decide) g24 (by omega) (fun c28 => ?_) (fun c28 => ?_)
      · refine V.bipush hc dX12_storms_104 (by decide) ?_
        refine V.iload_n hc dX12_storms_106 rfl rfl ?_
        refine V.isub hc dX12_storms_107 ?_
        refine V.drop (lo' := [(22, o), (1, 0), (0, a2), (0, a3), (0, a4), (0, l5), (0, l6), (1, 0), (0, l8)]) ⟨Or.inr rfl, Or.inr rfl, Or.inr rfl, Or.inr rfl, Or.inr rfl, Or.inr rfl, Or.inr rfl, Or.inl rfl, Or.inr rfl, trivial⟩ ?_
        exact kJ27 _ ⟨fun _ => rfl, (fun q => absurd q c28)⟩
      · refine V.iload_n hc dX12_storms_100 rfl rfl ?_
        refine V.goto hc (tgt := 108) dX12_storms_101 (by decide) ?_
        refine V.drop (lo' := [(22, o), (1, 0), (0, a2), (0, a3), (0, a4), (0, l5), (0, l6), (1, 0), (0, l8)]) ⟨Or.inr rfl, Or.inr rfl, Or.inr rfl, Or.inr rfl, Or.inr rfl, Or.inr rfl, Or.inr rfl, Or.inl rfl, Or.inr rfl, trivial⟩ ?_
        exact kJ27 _ ⟨(fun q => absurd c28 q), fun _ => rfl⟩
theorem tX12_storms_67 {G : GG} {p : Program} {l : Launch} {e : Jvm.Env} {s : State} {m : MethodId} {args : Array Value} {below : List Frame} {meth : Method} {c : Code} {P : Int → HP → Prop} (hc : VC G p (rmD 41 0) s m args meth c RX12 cX12_storms 9 41) (hr : meth.sig.returnType = some .int) {o : Int} {a1 : Int} {a2 : Int} {a3 : Int} {a4 : Int} {K166 : Int → HP → Prop} (hK166 : ∀ (x5 : Int) (h : HP), K166 x5 h → V G p l e (rmD 41 0) s m args below meth c (MQ below (QI G P) args s 0 0 (va_Aof G)) 9 166 [(22, o), (1, 0), (1, 0), (1, 0), (1, 0), (0, x5), (1, 0), (1, 0), (1, 0)] [] h 0) : ∀ (f : Nat) (l5 : Int) (l6 : Int) (h : HP), wX12_storms_67 o a1 a2 a3 a4 K166 f l5 l6 h → V G p l e (rmD 41 0) s m args below meth c (MQ below (QI G P) args s 0 0 (va_Aof G)) 9 67 [(22, o), (1, 0), (0, a2), (0, a3), (0, a4), (0, l5), (0, l6), (1, 0), (1, 0)] [] h 0 := by
  intro f
  induction f with
  | zero =>
    intro l5 l6 h hw
    exact hw.elim
  | succ f ih =>
    intro l5 l6 h hw
    refine V.iload hc dX12_storms_67 rfl ?_
    refine V.iconst hc dX12_storms_69 ?_
    refine V.iload_n hc dX12_storms_70 rfl rfl ?_
    refine V.ishl hc dX12_storms_71 ?_
    obtain ⟨g18, hw⟩ := hw
    obtain ⟨g19, hw⟩ := hw
    refine V.icmp_ge hc (tgt := 166) dX12_storms_72 (by decide) g18 g19 (fun c20 => ?_) (fun c20 => ?_)
    · replace hw := hw.1 c20
      refine V.drop (lo' := [(22, o), (1, 0), (1, 0), (1, 0), (1, 0), (0, l5), (1, 0), (1, 0), (1, 0)]) ⟨Or.inr rfl, Or.inr rfl, Or.inl rfl, Or.inl rfl, Or.inl rfl, Or.inr rfl, Or.inl rfl, Or.inr rfl, Or.inr rfl, trivial⟩ ?_
      exact hK166 _ _ hw
    · replace hw := hw.2 c20
      refine V.iconst hc dX12_storms_75 ?_
      refine V.istore hc dX12_storms_76 rfl (lo' := [(22, o), (1, 0), (0, a2), (0, a3), (0, a4), (0, l5), (0, l6), (0, 1), (1, 0)]) rfl ?_
      refine V.iconst hc dX12_storms_78 ?_
      refine V.istore hc dX12_storms_79 rfl (lo' := [(22, o), (1, 0), (0, a2), (0, a3), (0, a4), (0, l5), (0, l6), (0, 1), (0, 0)]) rfl ?_
      obtain ⟨f29, hw⟩ := hw
      refine tX12_storms_81 hc hr ?_ f29 _ _ hw
      · intro l30 hw
        refine V.aload_n (t := 12) hc dX12_storms_117 rfl rfl ?_
        refine V.iload hc dX12_storms_118 rfl ?_
        refine V.pI hc pI_X12_326 rfl dX12_storms_120 (fun h31 e => ?_)
        replace hw := hw h31 e
        clear e
        refine V.aload_n (t := 12) hc dX12_storms_123 rfl rfl ?_
        refine V.iconst hc dX12_storms_124 ?_
        refine V.pI hc pI_X12_323 rfl dX12_storms_125 (fun h32 e => ?_)
        replace hw := hw h32 e
        clear e
        refine V.aload_n (t := 12) hc dX12_storms_128 rfl rfl ?_
        refine V.bipush hc dX12_storms_129 (by decide) ?_
        refine V.callVV hc (qX12_goOn G l _ _ _ _ hw) mo_X12_goOn ml_X12_375 (by rfl) rfl rfl (as := [(0, 100)]) rfl rfl rfl rfl rfl ⟨Nat.zero_le _, Nat.zero_le _⟩ dX12_storms_131 (fun h33 hw => ?_)
        refine V.iload hc dX12_storms_134 rfl ?_
        refine V.aload_n (t := 12) hc dX12_storms_136 rfl rfl ?_
        refine V.callVI hc (qX12_packetsNow G l _ _ _ hw) mo_X12_packetsNow ml_X12_347 (by rfl) rfl rfl (as := []) rfl rfl rfl rfl rfl ⟨Nat.zero_le _, Nat.zero_le _⟩ dX12_storms_137 (fun x35 h34 hw => ?_)
        refine V.iload hc dX12_storms_140 rfl ?_
        obtain ⟨q39, hw⟩ := hw
        have kJ42 : ∀ t38 : Int, ((a4 < x35 → t38 = 0) ∧ (¬ a4 < x35 → t38 = l30)) → V G p l e (rmD 41 0) s m args below meth c (MQ below (QI G P) args s 0 0 (va_Aof G)) 9 151 [(22, o), (1, 0), (0, a2), (0, a3), (0, a4), (1, 0), (0, l6), (1, 0), (1, 0)] [(0, t38), (0, l5)] h34 0 := by
          intro t38 he
          replace hw := hw t38 he
          clear he
          refine V.iadd hc dX12_storms_151 ?_
          refine V.istore hc dX12_storms_152 rfl (lo' := [(22, o), (1, 0), (0, a2), (0, a3), (0, a4), (0, l5 + t38), (0, l6), (1, 0), (1, 0)]) rfl ?_
          refine V.aload_n (t := 12) hc dX12_storms_154 rfl rfl ?_
          refine V.iconst hc dX12_storms_155 ?_
          refine V.callVI hc (qX12_back G l _ _ _ _ hw) mo_X12_back ml_X12_405 (by rfl) rfl rfl (as := [(0, 0)]) rfl rfl rfl rfl rfl ⟨Nat.zero_le _, Nat.zero_le _⟩ dX12_storms_156 (fun x41 h40 hw => ?_)
          refine V.pop hc dX12_storms_159 (by show (0 : Nat) ≠ 2; omega) ?_
          refine V.iinc hc dX12_storms_160 rfl rfl (lo' := [(22, o), (1, 0), (0, a2), (0, a3), (0, a4), (0, l5 + t38), (0, l6 + 1), (1, 0), (1, 0)]) rfl ?_
          refine V.goto hc (tgt := 67) dX12_storms_163 (by decide) ?_
          exact ih _ _ _ hw
        obtain ⟨g36, g37⟩ := q39
        refine V.icmp_gt hc (tgt := 150) dX12_storms_142 (by decide) g36 g37 (fun c43 => ?_) (fun c43 => ?_)
        · refine V.iconst hc dX12_storms_150 ?_
          refine V.drop (lo' := [(22, o), (1, 0), (0, a2), (0, a3), (0, a4), (1, 0), (0, l6), (1, 0), (1, 0)]) ⟨Or.inr rfl, Or.inr rfl, Or.inr rfl, Or.inr rfl, Or.inr rfl, Or.inl rfl, Or.inr rfl, Or.inl rfl, Or.inr rfl, trivial⟩ ?_
          exact kJ42 _ ⟨fun _ => rfl, (fun q => absurd c43 q)⟩
        · refine V.iload hc dX12_storms_145 rfl ?_
          refine V.goto hc (tgt := 151) dX12_storms_147 (by decide) ?_
          refine V.drop (lo' := [(22, o), (1, 0), (0, a2), (0, a3), (0, a4), (1, 0), (0, l6), (1, 0), (1, 0)]) ⟨Or.inr rfl, Or.inr rfl, Or.inr rfl, Or.inr rfl, Or.inr rfl, Or.inl rfl, Or.inr rfl, Or.inl rfl, Or.inr rfl, trivial⟩ ?_
          exact kJ42 _ ⟨(fun q => absurd q c43), fun _ => rfl⟩
theorem qX12_storms (G : GG) (l : Launch) (o : Int) (a1 : Int) (a2 : Int) (a3 : Int) (a4 : Int) (h : HP) (P : Int → HP → Prop) (hw : wX12_storms o a1 a2 a3 a4 h P) : CnI l G yX12_storms cX12_storms 9 (some .int) 41 [(22, o), (0, a1), (0, a2), (0, a3), (0, a4)] h P := by
  refine CnI.of (lo := [(22, o), (0, a1), (0, a2), (0, a3), (0, a4), (1, 0), (1, 0), (1, 0), (1, 0)]) (by decide) rfl rfl rfl ?_
  intro p e s m args below meth c hc hr
  have hc : VC G p (rmD 41 0) s m args meth c RX12 cX12_storms 9 41 := hc
  refine V.aload_n (t := 12) hc dX12_storms_0 rfl rfl ?_
  refine V.iconst hc dX12_storms_1 ?_
  refine V.pI hc pI_X12_118 rfl dX12_storms_2 (fun h1 e => ?_)
  replace hw := hw h1 e
  clear e
  refine V.iload_n hc dX12_storms_5 rfl rfl ?_
  refine V.iconst hc dX12_storms_6 ?_
  refine V.aload_n (t := 12) hc dX12_storms_7 rfl rfl ?_
  refine V.gR hc gR_X12_21 (i' := o) rfl dX12_storms_8 ?_
  refine V.iconst hc dX12_storms_11 ?_
  refine V.ald hc ak_49 (by omega) dX12_storms_12 ?_
  refine V.iconst hc dX12_storms_13 ?_
  refine V.isub hc dX12_storms_14 ?_
  refine V.callSI hc (qX12_isIn G l _ _ _ _ _ hw) mo_X12_isIn ml_X12_356 (as := [(0, a1), (0, 0), (0, (h1 49 o 1) - 1)]) rfl rfl rfl rfl rfl ⟨Nat.zero_le _, Nat.zero_le _⟩ dX12_storms_15 (fun x3 h2 hw => ?_)
  obtain ⟨g4, hw⟩ := hw
  refine V.if_ne hc (tgt := 27) dX12_storms_18 (by decide) g4 (fun c5 => ?_) (fun c5 => ?_)
  · replace hw := hw.1 c5
    refine V.iload_n hc dX12_storms_27 rfl rfl ?_
    refine V.iconst hc dX12_storms_28 ?_
    refine V.iconst hc dX12_storms_29 ?_
    refine V.callSI hc (qX12_isIn G l _ _ _ _ _ hw) mo_X12_isIn ml_X12_356 (as := [(0, a2), (0, 1), (0, 5)]) rfl rfl rfl rfl rfl ⟨Nat.zero_le _, Nat.zero_le _⟩ dX12_storms_30 (fun x7 h6 hw => ?_)
    obtain ⟨g8, hw⟩ := hw
    refine V.if_eq hc (tgt := 46) dX12_storms_33 (by decide) g8 (fun c9 => ?_) (fun c9 => ?_)
    · replace hw := hw.1 c9
      refine V.aload_n (t := 12) hc dX12_storms_46 rfl rfl ?_
      refine V.iconst hc dX12_storms_47 ?_
      refine V.callVI hc (qX12_fail G l _ _ _ _ hw) mo_X12_fail ml_X12_219 (by rfl) rfl rfl (as := [(0, 2)]) rfl rfl rfl rfl rfl ⟨Nat.zero_le _, Nat.zero_le _⟩ dX12_storms_48 (fun x11 h10 hw => ?_)
      exact V.iret hc hr dX12_storms_51 hw
    · replace hw := hw.2 c9
      refine V.iload_n hc dX12_storms_36 rfl rfl ?_
      refine V.iconst hc dX12_storms_37 ?_
      refine V.bipush hc dX12_storms_38 (by decide) ?_
      refine V.callSI hc (qX12_isIn G l _ _ _ _ _ hw) mo_X12_isIn ml_X12_356 (as := [(0, a3), (0, 0), (0, 10)]) rfl rfl rfl rfl rfl ⟨Nat.zero_le _, Nat.zero_le _⟩ dX12_storms_40 (fun x13 h12 hw => ?_)
      obtain ⟨g14, hw⟩ := hw
      refine V.if_ne hc (tgt := 52) dX12_storms_43 (by decide) g14 (fun c15 => ?_) (fun c15 => ?_)
      · replace hw := hw.1 c15
        refine V.iconst hc dX12_storms_52 ?_
        refine V.istore hc dX12_storms_53 rfl (lo' := [(22, o), (0, a1), (0, a2), (0, a3), (0, a4), (0, 0), (1, 0), (1, 0), (1, 0)]) rfl ?_
        refine V.aload_n (t := 12) hc dX12_storms_55 rfl rfl ?_
        refine V.callVV hc (qX12_rememberNow G l _ _ _ hw) mo_X12_rememberNow ml_X12_402 (by rfl) rfl rfl (as := []) rfl rfl rfl rfl rfl ⟨Nat.zero_le _, Nat.zero_le _⟩ dX12_storms_56 (fun h16 hw => ?_)
        refine V.aload_n (t := 12) hc dX12_storms_59 rfl rfl ?_
        refine V.iload_n hc dX12_storms_60 rfl rfl ?_
        refine V.pI hc pI_X12_63 rfl dX12_storms_61 (fun h17 e => ?_)
        replace hw := hw h17 e
        clear e
        refine V.iconst hc dX12_storms_64 ?_
        refine V.istore hc dX12_storms_65 rfl (lo' := [(22, o), (0, a1), (0, a2), (0, a3), (0, a4), (0, 0), (0, 0), (1, 0), (1, 0)]) rfl ?_
        obtain ⟨f44, hw⟩ := hw
        refine V.drop (lo' := [(22, o), (1, 0), (0, a2), (0, a3), (0, a4), (0, 0), (0, 0), (1, 0), (1, 0)]) ⟨Or.inr rfl, Or.inl rfl, Or.inr rfl, Or.inr rfl, Or.inr rfl, Or.inr rfl, Or.inr rfl, Or.inr rfl, Or.inr rfl, trivial⟩ ?_
        refine tX12_storms_67 hc hr ?_ f44 _ _ _ hw
        · intro l45 h46 hw
          refine V.aload_n (t := 12) hc dX12_storms_166 rfl rfl ?_
          refine V.iconst hc dX12_storms_167 ?_
          refine V.pI hc pI_X12_63 rfl dX12_storms_168 (fun h47 e => ?_)
          replace hw := hw h47 e
          clear e
          refine V.iload hc dX12_storms_171 rfl ?_
          exact V.iret hc hr dX12_storms_173 hw
      · replace hw := hw.2 c15
        refine V.aload_n (t := 12) hc dX12_storms_46 rfl rfl ?_
        refine V.iconst hc dX12_storms_47 ?_
        refine V.callVI hc (qX12_fail G l _ _ _ _ hw) mo_X12_fail ml_X12_219 (by rfl) rfl rfl (as := [(0, 2)]) rfl rfl rfl rfl rfl ⟨Nat.zero_le _, Nat.zero_le _⟩ dX12_storms_48 (fun x49 h48 hw => ?_)
        exact V.iret hc hr dX12_storms_51 hw
  · replace hw := hw.2 c5
    refine V.aload_n (t := 12) hc dX12_storms_21 rfl rfl ?_
    refine V.iconst hc dX12_storms_22 ?_
    refine V.callVI hc (qX12_fail G l _ _ _ _ hw) mo_X12_fail ml_X12_219 (by rfl) rfl rfl (as := [(0, 1)]) rfl rfl rfl rfl rfl ⟨Nat.zero_le _, Nat.zero_le _⟩ dX12_storms_23 (fun x51 h50 hw => ?_)
    exact V.iret hc hr dX12_storms_26 hw
theorem qX12_draw (G : GG) (l : Launch) (o : Int) (a1 : Int) (h : HP) (P : Int → HP → Prop) (hw : wX12_draw o a1 h P) : CnI l G yX12_draw cX12_draw 2 (some .int) 8 [(22, o), (0, a1)] h P := by
  refine CnI.of (lo := [(22, o), (0, a1)]) (by decide) rfl rfl rfl ?_
  intro p e s m args below meth c hc hr
  have hc : VC G p (rmD 8 0) s m args meth c RX12 cX12_draw 2 8 := hc
  refine V.aload_n (t := 12) hc dX12_draw_0 rfl rfl ?_
  refine V.aload_n (t := 12) hc dX12_draw_1 rfl rfl ?_
  refine V.gI hc gI_X12_433 rfl dX12_draw_2 ?_
  refine V.ldcw hc (x := 1103515245) kl_X12_436 dX12_draw_5 ?_
  refine V.imul hc dX12_draw_8 ?_
  refine V.sipush hc dX12_draw_9 (by decide) ?_
  refine V.iadd hc dX12_draw_12 ?_
  refine V.pI hc pI_X12_433 rfl dX12_draw_13 (fun h1 e => ?_)
  replace hw := hw h1 e
  clear e
  refine V.aload_n (t := 12) hc dX12_draw_16 rfl rfl ?_
  refine V.gI hc gI_X12_433 rfl dX12_draw_17 ?_
  refine V.bipush hc dX12_draw_20 (by decide) ?_
  refine V.ishr hc dX12_draw_22 ?_
  refine V.sipush hc dX12_draw_23 (by decide) ?_
  refine V.iand hc dX12_draw_26 ?_
  refine V.iload_n hc dX12_draw_27 rfl rfl ?_
  obtain ⟨g2, hw⟩ := hw
  obtain ⟨g3, hw⟩ := hw
  refine V.irem hc g2 g3 dX12_draw_28 ?_
  exact V.iret hc hr dX12_draw_29 hw
theorem tX12_happen_97 {G : GG} {p : Program} {l : Launch} {e : Jvm.Env} {s : State} {m : MethodId} {args : Array Value} {below : List Frame} {meth : Method} {c : Code} {P : HP → Prop} (hc : VC G p (rmD 41 0) s m args meth c RX12 cX12_happen 4 41) (hr : meth.sig.returnType = none) {o : Int} {l1 : Int} {h : HP} (hw : wX12_happen_97 o l1 P h) : V G p l e (rmD 41 0) s m args below meth c (MQ below (QV G P) args s 0 0 (va_Aof G)) 4 97 [(22, o), (0, l1), (1, 0), (1, 0)] [] h 0 := by
  refine V.iload_n hc dX12_happen_97 rfl rfl ?_
  refine V.iconst hc dX12_happen_98 ?_
  obtain ⟨g5, hw⟩ := hw
  refine V.icmp_ne hc (tgt := 134) dX12_happen_99 (by decide) g5 (by omega) (fun c6 => ?_) (fun c6 => ?_)
  · replace hw := hw.1 c6
    refine V.aload_n (t := 12) hc dX12_happen_134 rfl rfl ?_
    refine V.bipush hc dX12_happen_135 (by decide) ?_
    refine V.callVV hc (qX12_goOn G l _ _ _ _ hw) mo_X12_goOn ml_X12_375 (by rfl) rfl rfl (as := [(0, 10)]) rfl rfl rfl rfl rfl ⟨Nat.zero_le _, Nat.zero_le _⟩ dX12_happen_137 (fun h7 hw => ?_)
    exact V.vret hc hr dX12_happen_140 hw
  · replace hw := hw.2 c6
    refine V.aload_n (t := 12) hc dX12_happen_102 rfl rfl ?_
    refine V.gR hc gR_X12_21 (i' := o) rfl dX12_happen_103 ?_
    refine V.iconst hc dX12_happen_106 ?_
    refine V.ald hc ak_49 (by omega) dX12_happen_107 ?_
    obtain ⟨g8, hw⟩ := hw
    refine V.if_le hc (tgt := 134) dX12_happen_108 (by decide) g8 (fun c9 => ?_) (fun c9 => ?_)
    · replace hw := hw.1 c9
      refine V.aload_n (t := 12) hc dX12_happen_134 rfl rfl ?_
      refine V.bipush hc dX12_happen_135 (by decide) ?_
      refine V.callVV hc (qX12_goOn G l _ _ _ _ hw) mo_X12_goOn ml_X12_375 (by rfl) rfl rfl (as := [(0, 10)]) rfl rfl rfl rfl rfl ⟨Nat.zero_le _, Nat.zero_le _⟩ dX12_happen_137 (fun h10 hw => ?_)
      exact V.vret hc hr dX12_happen_140 hw
    · replace hw := hw.2 c9
      refine V.aload_n (t := 12) hc dX12_happen_111 rfl rfl ?_
      refine V.gR hc gR_X12_43 (i' := o) rfl dX12_happen_112 ?_
      refine V.sipush hc dX12_happen_115 (by decide) ?_
      refine V.dup2 hc dX12_happen_118 (by simp) (by simp) ?_
      refine V.ald hc ak_56 (by omega) dX12_happen_119 ?_
      refine V.iconst hc dX12_happen_120 ?_
      refine V.aload_n (t := 12) hc dX12_happen_121 rfl rfl ?_
      refine V.aload_n (t := 12) hc dX12_happen_122 rfl rfl ?_
      refine V.gR hc gR_X12_21 (i' := o) rfl dX12_happen_123 ?_
      refine V.iconst hc dX12_happen_126 ?_
      refine V.ald hc ak_49 (by omega) dX12_happen_127 ?_
      refine V.callVI hc (qX12_draw G l _ _ _ _ hw) mo_X12_draw ml_X12_437 (by rfl) rfl rfl (as := [(0, h 49 o 1)]) rfl rfl rfl rfl rfl ⟨Nat.zero_le _, Nat.zero_le _⟩ dX12_happen_128 (fun x12 h11 hw => ?_)
      refine V.ishl hc dX12_happen_131 ?_
      refine V.ixor hc dX12_happen_132 ?_
      refine V.ast hc ak_56 (by omega) dX12_happen_133 (fun h13 e => ?_)
      replace hw := hw h13 e
      clear e
      refine V.aload_n (t := 12) hc dX12_happen_134 rfl rfl ?_
      refine V.bipush hc dX12_happen_135 (by decide) ?_
      refine V.callVV hc (qX12_goOn G l _ _ _ _ hw) mo_X12_goOn ml_X12_375 (by rfl) rfl rfl (as := [(0, 10)]) rfl rfl rfl rfl rfl ⟨Nat.zero_le _, Nat.zero_le _⟩ dX12_happen_137 (fun h14 hw => ?_)
      exact V.vret hc hr dX12_happen_140 hw
theorem qX12_happen (G : GG) (l : Launch) (o : Int) (h : HP) (P : HP → Prop) (hw : wX12_happen o h P) : CnV l G yX12_happen cX12_happen 4 41 [(22, o)] h P := by
  refine CnV.of (lo := [(22, o), (1, 0), (1, 0), (1, 0)]) (by decide) rfl rfl rfl ?_
  intro p e s m args below meth c hc hr
  have hc : VC G p (rmD 41 0) s m args meth c RX12 cX12_happen 4 41 := hc
  refine V.aload_n (t := 12) hc dX12_happen_0 rfl rfl ?_
  refine V.bipush hc dX12_happen_1 (by decide) ?_
  refine V.callVI hc (qX12_draw G l _ _ _ _ hw) mo_X12_draw ml_X12_437 (by rfl) rfl rfl (as := [(0, 6)]) rfl rfl rfl rfl rfl ⟨Nat.zero_le _, Nat.zero_le _⟩ dX12_happen_3 (fun x2 h1 hw => ?_)
  refine V.istore_n hc dX12_happen_6 rfl rfl (lo' := [(22, o), (0, x2), (1, 0), (1, 0)]) rfl ?_
  refine V.iload_n hc dX12_happen_7 rfl rfl ?_
  refine V.iconst hc dX12_happen_8 ?_
  obtain ⟨g3, hw⟩ := hw
  refine V.icmp_ge hc (tgt := 97) dX12_happen_9 (by decide) g3 (by omega) (fun c4 => ?_) (fun c4 => ?_)
  · replace hw := hw.1 c4
    exact tX12_happen_97 hc hr  hw
  · replace hw := hw.2 c4
    refine V.aload_n (t := 12) hc dX12_happen_12 rfl rfl ?_
    refine V.gR hc gR_X12_21 (i' := o) rfl dX12_happen_13 ?_
    refine V.iconst hc dX12_happen_16 ?_
    refine V.ald hc ak_49 (by omega) dX12_happen_17 ?_
    obtain ⟨g15, hw⟩ := hw
    refine V.if_le hc (tgt := 97) dX12_happen_18 (by decide) g15 (fun c16 => ?_) (fun c16 => ?_)
    · replace hw := hw.1 c16
      exact tX12_happen_97 hc hr  hw
    · replace hw := hw.2 c16
      refine V.aload_n (t := 12) hc dX12_happen_21 rfl rfl ?_
      refine V.aload_n (t := 12) hc dX12_happen_22 rfl rfl ?_
      refine V.gR hc gR_X12_21 (i' := o) rfl dX12_happen_23 ?_
      refine V.iconst hc dX12_happen_26 ?_
      refine V.ald hc ak_49 (by omega) dX12_happen_27 ?_
      refine V.callVI hc (qX12_draw G l _ _ _ _ hw) mo_X12_draw ml_X12_437 (by rfl) rfl rfl (as := [(0, h1 49 o 0)]) rfl rfl rfl rfl rfl ⟨Nat.zero_le _, Nat.zero_le _⟩ dX12_happen_28 (fun x18 h17 hw => ?_)
      refine V.istore_n hc dX12_happen_31 rfl rfl (lo' := [(22, o), (0, x2), (0, x18), (1, 0)]) rfl ?_
      refine V.iload_n hc dX12_happen_32 rfl rfl ?_
      obtain ⟨g19, hw⟩ := hw
      refine V.if_ne hc (tgt := 63) dX12_happen_33 (by decide) g19 (fun c20 => ?_) (fun c20 => ?_)
      · replace hw := hw.1 c20
        refine V.iload_n hc dX12_happen_63 rfl rfl ?_
        refine V.iconst hc dX12_happen_64 ?_
        obtain ⟨g21, hw⟩ := hw
        refine V.icmp_ne hc (tgt := 89) dX12_happen_65 (by decide) g21 (by omega) (fun c22 => ?_) (fun c22 => ?_)
        · replace hw := hw.1 c22
          refine V.aload_n (t := 12) hc dX12_happen_89 rfl rfl ?_
          refine V.iload_n hc dX12_happen_90 rfl rfl ?_
          refine V.callVV hc (qX12_drop G l _ _ _ _ hw) mo_X12_drop ml_X12_386 (by rfl) rfl rfl (as := [(0, x18)]) rfl rfl rfl rfl rfl ⟨Nat.zero_le _, Nat.zero_le _⟩ dX12_happen_91 (fun h23 hw => ?_)
          refine V.goto hc (tgt := 134) dX12_happen_94 (by decide) ?_
          refine V.aload_n (t := 12) hc dX12_happen_134 rfl rfl ?_
          refine V.bipush hc dX12_happen_135 (by decide) ?_
          refine V.callVV hc (qX12_goOn G l _ _ _ _ hw) mo_X12_goOn ml_X12_375 (by rfl) rfl rfl (as := [(0, 10)]) rfl rfl rfl rfl rfl ⟨Nat.zero_le _, Nat.zero_le _⟩ dX12_happen_137 (fun h24 hw => ?_)
          exact V.vret hc hr dX12_happen_140 hw
        · replace hw := hw.2 c22
          refine V.aload_n (t := 12) hc dX12_happen_68 rfl rfl ?_
          refine V.bipush hc dX12_happen_69 (by decide) ?_
          refine V.callVI hc (qX12_draw G l _ _ _ _ hw) mo_X12_draw ml_X12_437 (by rfl) rfl rfl (as := [(0, 100)]) rfl rfl rfl rfl rfl ⟨Nat.zero_le _, Nat.zero_le _⟩ dX12_happen_71 (fun x26 h25 hw => ?_)
          refine V.iconst hc dX12_happen_74 ?_
          refine V.iadd hc dX12_happen_75 ?_
          refine V.istore_n hc dX12_happen_76 rfl rfl (lo' := [(22, o), (0, x2), (0, x18), (0, x26 + 1)]) rfl ?_
          refine V.aload_n (t := 12) hc dX12_happen_77 rfl rfl ?_
          refine V.iload_n hc dX12_happen_78 rfl rfl ?_
          refine V.iconst hc dX12_happen_79 ?_
          refine V.iload_n hc dX12_happen_80 rfl rfl ?_
          refine V.iconst hc dX12_happen_81 ?_
          refine V.iload_n hc dX12_happen_82 rfl rfl ?_
          refine V.callVV hc (qX12_bend G l _ _ _ _ _ _ _ _ hw) mo_X12_bend ml_X12_382 (by rfl) rfl rfl (as := [(0, x18), (0, 1), (0, x26 + 1), (0, 0), (0, x26 + 1)]) rfl rfl rfl rfl rfl ⟨Nat.zero_le _, Nat.zero_le _⟩ dX12_happen_83 (fun h27 hw => ?_)
          refine V.goto hc (tgt := 94) dX12_happen_86 (by decide) ?_
          refine V.goto hc (tgt := 134) dX12_happen_94 (by decide) ?_
          refine V.aload_n (t := 12) hc dX12_happen_134 rfl rfl ?_
          refine V.bipush hc dX12_happen_135 (by decide) ?_
          refine V.callVV hc (qX12_goOn G l _ _ _ _ hw) mo_X12_goOn ml_X12_375 (by rfl) rfl rfl (as := [(0, 10)]) rfl rfl rfl rfl rfl ⟨Nat.zero_le _, Nat.zero_le _⟩ dX12_happen_137 (fun h28 hw => ?_)
          exact V.vret hc hr dX12_happen_140 hw
      · replace hw := hw.2 c20
        refine V.aload_n (t := 12) hc dX12_happen_36 rfl rfl ?_
        refine V.bipush hc dX12_happen_37 (by decide) ?_
        refine V.callVI hc (qX12_draw G l _ _ _ _ hw) mo_X12_draw ml_X12_437 (by rfl) rfl rfl (as := [(0, 64)]) rfl rfl rfl rfl rfl ⟨Nat.zero_le _, Nat.zero_le _⟩ dX12_happen_39 (fun x30 h29 hw => ?_)
        refine V.iconst hc dX12_happen_42 ?_
        refine V.iadd hc dX12_happen_43 ?_
        refine V.istore_n hc dX12_happen_44 rfl rfl (lo' := [(22, o), (0, x2), (0, x18), (0, x30 + 1)]) rfl ?_
        refine V.aload_n (t := 12) hc dX12_happen_45 rfl rfl ?_
        refine V.iload_n hc dX12_happen_46 rfl rfl ?_
        refine V.callVI hc (qX12_isLeaf G l _ _ _ _ hw) mo_X12_isLeaf ml_X12_305 (by rfl) rfl rfl (as := [(0, x18)]) rfl rfl rfl rfl rfl ⟨Nat.zero_le _, Nat.zero_le _⟩ dX12_happen_47 (fun x32 h31 hw => ?_)
        obtain ⟨g33, hw⟩ := hw
        refine V.if_eq hc (tgt := 60) dX12_happen_50 (by decide) g33 (fun c34 => ?_) (fun c34 => ?_)
        · replace hw := hw.1 c34
          refine V.goto hc (tgt := 94) dX12_happen_60 (by decide) ?_
          refine V.goto hc (tgt := 134) dX12_happen_94 (by decide) ?_
          refine V.aload_n (t := 12) hc dX12_happen_134 rfl rfl ?_
          refine V.bipush hc dX12_happen_135 (by decide) ?_
          refine V.callVV hc (qX12_goOn G l _ _ _ _ hw) mo_X12_goOn ml_X12_375 (by rfl) rfl rfl (as := [(0, 10)]) rfl rfl rfl rfl rfl ⟨Nat.zero_le _, Nat.zero_le _⟩ dX12_happen_137 (fun h35 hw => ?_)
          exact V.vret hc hr dX12_happen_140 hw
        · replace hw := hw.2 c34
          refine V.aload_n (t := 12) hc dX12_happen_53 rfl rfl ?_
          refine V.iload_n hc dX12_happen_54 rfl rfl ?_
          refine V.iload_n hc dX12_happen_55 rfl rfl ?_
          refine V.callVI hc (qX12_comes G l _ _ _ _ _ hw) mo_X12_comes ml_X12_329 (by rfl) rfl rfl (as := [(0, x18), (0, x30 + 1)]) rfl rfl rfl rfl rfl ⟨Nat.zero_le _, Nat.zero_le _⟩ dX12_happen_56 (fun x37 h36 hw => ?_)
          refine V.pop hc dX12_happen_59 (by show (0 : Nat) ≠ 2; omega) ?_
          refine V.goto hc (tgt := 94) dX12_happen_60 (by decide) ?_
          refine V.goto hc (tgt := 134) dX12_happen_94 (by decide) ?_
          refine V.aload_n (t := 12) hc dX12_happen_134 rfl rfl ?_
          refine V.bipush hc dX12_happen_135 (by decide) ?_
          refine V.callVV hc (qX12_goOn G l _ _ _ _ hw) mo_X12_goOn ml_X12_375 (by rfl) rfl rfl (as := [(0, 10)]) rfl rfl rfl rfl rfl ⟨Nat.zero_le _, Nat.zero_le _⟩ dX12_happen_137 (fun h38 hw => ?_)
          exact V.vret hc hr dX12_happen_140 hw
theorem tX12_years_63 {G : GG} {p : Program} {l : Launch} {e : Jvm.Env} {s : State} {m : MethodId} {args : Array Value} {below : List Frame} {meth : Method} {c : Code} {P : Int → HP → Prop} (hc : VC G p (rmD 42 0) s m args meth c RX12 cX12_years 8 42) (hr : meth.sig.returnType = some .int) {o : Int} {a1 : Int} {a2 : Int} {a3 : Int} {l4 : Int} {l5 : Int} {K90 : Int → HP → Prop} (hK90 : ∀ (x6 : Int) (h : HP), K90 x6 h → V G p l e (rmD 42 0) s m args below meth c (MQ below (QI G P) args s 0 0 (va_Aof G)) 8 90 [(22, o), (1, 0), (1, 0), (0, a3), (0, l4), (0, l5), (0, x6), (1, 0)] [] h 0) : ∀ (f : Nat) (l6 : Int) (l7 : Int) (h : HP), wX12_years_63 o a1 a2 a3 l4 l5 K90 f l6 l7 h → V G p l e (rmD 42 0) s m args below meth c (MQ below (QI G P) args s 0 0 (va_Aof G)) 8 63 [(22, o), (1, 0), (0, a2), (0, a3), (0, l4), (0, l5), (0, l6), (0, l7)] [] h 0 := by
  intro f
  induction f with
  | zero =>
    intro l6 l7 h hw
    exact hw.elim
  | succ f ih =>
    intro l6 l7 h hw
    refine V.iload hc dX12_years_63 rfl ?_
    refine V.iload_n hc dX12_years_65 rfl rfl ?_
    obtain ⟨g16, hw⟩ := hw
    obtain ⟨g17, hw⟩ := hw
    refine V.icmp_ge hc (tgt := 90) dX12_years_66 (by decide) g16 g17 (fun c18 => ?_) (fun c18 => ?_)
    · replace hw := hw.1 c18
      refine V.drop (lo' := [(22, o), (1, 0), (1, 0), (0, a3), (0, l4), (0, l5), (0, l6), (1, 0)]) ⟨Or.inr rfl, Or.inr rfl, Or.inl rfl, Or.inr rfl, Or.inr rfl, Or.inr rfl, Or.inr rfl, Or.inl rfl, trivial⟩ ?_
      exact hK90 _ _ hw
    · replace hw := hw.2 c18
      refine V.aload_n (t := 12) hc dX12_years_69 rfl rfl ?_
      refine V.callVV hc (qX12_happen G l _ _ _ hw) mo_X12_happen ml_X12_440 (by rfl) rfl rfl (as := []) rfl rfl rfl rfl rfl ⟨Nat.zero_le _, Nat.zero_le _⟩ dX12_years_70 (fun h19 hw => ?_)
      refine V.iload hc dX12_years_73 rfl ?_
      refine V.aload_n (t := 12) hc dX12_years_75 rfl rfl ?_
      refine V.callVI hc (qX12_packetsNow G l _ _ _ hw) mo_X12_packetsNow ml_X12_347 (by rfl) rfl rfl (as := []) rfl rfl rfl rfl rfl ⟨Nat.zero_le _, Nat.zero_le _⟩ dX12_years_76 (fun x21 h20 hw => ?_)
      obtain ⟨g22, hw⟩ := hw
      obtain ⟨g23, hw⟩ := hw
      refine V.mmax hc ml_X12_255 rfl rfl g22 g23 dX12_years_79 ?_
      refine V.istore hc dX12_years_82 rfl (lo' := [(22, o), (1, 0), (0, a2), (0, a3), (0, l4), (0, l5), (0, max l6 x21), (0, l7)]) rfl ?_
      refine V.iinc hc dX12_years_84 rfl rfl (lo' := [(22, o), (1, 0), (0, a2), (0, a3), (0, l4), (0, l5), (0, max l6 x21), (0, l7 + 1)]) rfl ?_
      refine V.goto hc (tgt := 63) dX12_years_87 (by decide) ?_
      exact ih _ _ _ hw
theorem qX12_years (G : GG) (l : Launch) (o : Int) (a1 : Int) (a2 : Int) (a3 : Int) (h : HP) (P : Int → HP → Prop) (hw : wX12_years o a1 a2 a3 h P) : CnI l G yX12_years cX12_years 8 (some .int) 42 [(22, o), (0, a1), (0, a2), (0, a3)] h P := by
  refine CnI.of (lo := [(22, o), (0, a1), (0, a2), (0, a3), (1, 0), (1, 0), (1, 0), (1, 0)]) (by decide) rfl rfl rfl ?_
  intro p e s m args below meth c hc hr
  have hc : VC G p (rmD 42 0) s m args meth c RX12 cX12_years 8 42 := hc
  refine V.aload_n (t := 12) hc dX12_years_0 rfl rfl ?_
  refine V.iconst hc dX12_years_1 ?_
  refine V.pI hc pI_X12_118 rfl dX12_years_2 (fun h1 e => ?_)
  replace hw := hw h1 e
  clear e
  refine V.iload_n hc dX12_years_5 rfl rfl ?_
  refine V.iconst hc dX12_years_6 ?_
  refine V.iconst hc dX12_years_7 ?_
  refine V.callSI hc (qX12_isIn G l _ _ _ _ _ hw) mo_X12_isIn ml_X12_356 (as := [(0, a3), (0, 0), (0, 2)]) rfl rfl rfl rfl rfl ⟨Nat.zero_le _, Nat.zero_le _⟩ dX12_years_8 (fun x3 h2 hw => ?_)
  obtain ⟨g4, hw⟩ := hw
  refine V.if_ne hc (tgt := 20) dX12_years_11 (by decide) g4 (fun c5 => ?_) (fun c5 => ?_)
  · replace hw := hw.1 c5
    refine V.iload_n hc dX12_years_20 rfl rfl ?_
    refine V.iconst hc dX12_years_21 ?_
    refine V.bipush hc dX12_years_22 (by decide) ?_
    refine V.callSI hc (qX12_isIn G l _ _ _ _ _ hw) mo_X12_isIn ml_X12_356 (as := [(0, a2), (0, 0), (0, 60)]) rfl rfl rfl rfl rfl ⟨Nat.zero_le _, Nat.zero_le _⟩ dX12_years_24 (fun x7 h6 hw => ?_)
    obtain ⟨g8, hw⟩ := hw
    refine V.if_ne hc (tgt := 36) dX12_years_27 (by decide) g8 (fun c9 => ?_) (fun c9 => ?_)
    · replace hw := hw.1 c9
      refine V.aload_n (t := 12) hc dX12_years_36 rfl rfl ?_
      refine V.callVV hc (qX12_rememberNow G l _ _ _ hw) mo_X12_rememberNow ml_X12_402 (by rfl) rfl rfl (as := []) rfl rfl rfl rfl rfl ⟨Nat.zero_le _, Nat.zero_le _⟩ dX12_years_37 (fun h10 hw => ?_)
      refine V.aload_n (t := 12) hc dX12_years_40 rfl rfl ?_
      refine V.iload_n hc dX12_years_41 rfl rfl ?_
      refine V.pI hc pI_X12_433 rfl dX12_years_42 (fun h11 e => ?_)
      replace hw := hw h11 e
      clear e
      refine V.aload_n (t := 12) hc dX12_years_45 rfl rfl ?_
      refine V.callVI hc (qX12_sentNow G l _ _ _ hw) mo_X12_sentNow ml_X12_353 (by rfl) rfl rfl (as := []) rfl rfl rfl rfl rfl ⟨Nat.zero_le _, Nat.zero_le _⟩ dX12_years_46 (fun x13 h12 hw => ?_)
      refine V.istore hc dX12_years_49 rfl (lo' := [(22, o), (0, a1), (0, a2), (0, a3), (0, x13), (1, 0), (1, 0), (1, 0)]) rfl ?_
      refine V.aload_n (t := 12) hc dX12_years_51 rfl rfl ?_
      refine V.callVI hc (qX12_lostNow G l _ _ _ hw) mo_X12_lostNow ml_X12_350 (by rfl) rfl rfl (as := []) rfl rfl rfl rfl rfl ⟨Nat.zero_le _, Nat.zero_le _⟩ dX12_years_52 (fun x15 h14 hw => ?_)
      refine V.istore hc dX12_years_55 rfl (lo' := [(22, o), (0, a1), (0, a2), (0, a3), (0, x13), (0, x15), (1, 0), (1, 0)]) rfl ?_
      refine V.iconst hc dX12_years_57 ?_
      refine V.istore hc dX12_years_58 rfl (lo' := [(22, o), (0, a1), (0, a2), (0, a3), (0, x13), (0, x15), (0, 0), (1, 0)]) rfl ?_
      refine V.iconst hc dX12_years_60 ?_
      refine V.istore hc dX12_years_61 rfl (lo' := [(22, o), (0, a1), (0, a2), (0, a3), (0, x13), (0, x15), (0, 0), (0, 0)]) rfl ?_
      obtain ⟨f24, hw⟩ := hw
      refine V.drop (lo' := [(22, o), (1, 0), (0, a2), (0, a3), (0, x13), (0, x15), (0, 0), (0, 0)]) ⟨Or.inr rfl, Or.inl rfl, Or.inr rfl, Or.inr rfl, Or.inr rfl, Or.inr rfl, Or.inr rfl, Or.inr rfl, trivial⟩ ?_
      refine tX12_years_63 hc hr ?_ f24 _ _ _ hw
      · intro l25 h26 hw
        refine V.aload_n (t := 12) hc dX12_years_90 rfl rfl ?_
        refine V.iload_n hc dX12_years_91 rfl rfl ?_
        obtain ⟨g27, hw⟩ := hw
        refine V.if_ne hc (tgt := 105) dX12_years_92 (by decide) g27 (fun c28 => ?_) (fun c28 => ?_)
        · replace hw := hw.1 c28
          refine V.iload_n hc dX12_years_105 rfl rfl ?_
          refine V.iconst hc dX12_years_106 ?_
          obtain ⟨g29, hw⟩ := hw
          refine V.icmp_ne hc (tgt := 120) dX12_years_107 (by decide) g29 (by omega) (fun c30 => ?_) (fun c30 => ?_)
          · replace hw := hw.1 c30
            refine V.iload hc dX12_years_120 rfl ?_
            refine V.callVI hc (qX12_back G l _ _ _ _ hw) mo_X12_back ml_X12_405 (by rfl) rfl rfl (as := [(0, l25)]) rfl rfl rfl rfl rfl ⟨Nat.zero_le _, Nat.zero_le _⟩ dX12_years_122 (fun x32 h31 hw => ?_)
            exact V.iret hc hr dX12_years_125 hw
          · replace hw := hw.2 c30
            refine V.aload_n (t := 12) hc dX12_years_110 rfl rfl ?_
            refine V.callVI hc (qX12_lostNow G l _ _ _ hw) mo_X12_lostNow ml_X12_350 (by rfl) rfl rfl (as := []) rfl rfl rfl rfl rfl ⟨Nat.zero_le _, Nat.zero_le _⟩ dX12_years_111 (fun x34 h33 hw => ?_)
            refine V.iload hc dX12_years_114 rfl ?_
            refine V.isub hc dX12_years_116 ?_
            refine V.goto hc (tgt := 122) dX12_years_117 (by decide) ?_
            refine V.callVI hc (qX12_back G l _ _ _ _ hw) mo_X12_back ml_X12_405 (by rfl) rfl rfl (as := [(0, x34 - x15)]) rfl rfl rfl rfl rfl ⟨Nat.zero_le _, Nat.zero_le _⟩ dX12_years_122 (fun x36 h35 hw => ?_)
            exact V.iret hc hr dX12_years_125 hw
        · replace hw := hw.2 c28
          refine V.aload_n (t := 12) hc dX12_years_95 rfl rfl ?_
          refine V.callVI hc (qX12_sentNow G l _ _ _ hw) mo_X12_sentNow ml_X12_353 (by rfl) rfl rfl (as := []) rfl rfl rfl rfl rfl ⟨Nat.zero_le _, Nat.zero_le _⟩ dX12_years_96 (fun x38 h37 hw => ?_)
          refine V.iload hc dX12_years_99 rfl ?_
          refine V.isub hc dX12_years_101 ?_
          refine V.goto hc (tgt := 122) dX12_years_102 (by decide) ?_
          refine V.callVI hc (qX12_back G l _ _ _ _ hw) mo_X12_back ml_X12_405 (by rfl) rfl rfl (as := [(0, x38 - x13)]) rfl rfl rfl rfl rfl ⟨Nat.zero_le _, Nat.zero_le _⟩ dX12_years_122 (fun x40 h39 hw => ?_)
          exact V.iret hc hr dX12_years_125 hw
    · replace hw := hw.2 c9
      refine V.aload_n (t := 12) hc dX12_years_30 rfl rfl ?_
      refine V.iconst hc dX12_years_31 ?_
      refine V.callVI hc (qX12_fail G l _ _ _ _ hw) mo_X12_fail ml_X12_219 (by rfl) rfl rfl (as := [(0, 2)]) rfl rfl rfl rfl rfl ⟨Nat.zero_le _, Nat.zero_le _⟩ dX12_years_32 (fun x42 h41 hw => ?_)
      exact V.iret hc hr dX12_years_35 hw
  · replace hw := hw.2 c5
    refine V.aload_n (t := 12) hc dX12_years_14 rfl rfl ?_
    refine V.iconst hc dX12_years_15 ?_
    refine V.callVI hc (qX12_fail G l _ _ _ _ hw) mo_X12_fail ml_X12_219 (by rfl) rfl rfl (as := [(0, 1)]) rfl rfl rfl rfl rfl ⟨Nat.zero_le _, Nat.zero_le _⟩ dX12_years_16 (fun x44 h43 hw => ?_)
    exact V.iret hc hr dX12_years_19 hw
theorem tX12_say_2 {G : GG} {p : Program} {l : Launch} {e : Jvm.Env} {s : State} {m : MethodId} {args : Array Value} {below : List Frame} {meth : Method} {c : Code} {P : HP → Prop} (hc : VC G p (rmD 8 0) s m args meth c RX12 cX12_say 3 8) (hr : meth.sig.returnType = none) {o : Int} {s1 : Int} {K40 : HP → Prop} (hK40 : ∀  (h : HP), K40  h → V G p l e (rmD 8 0) s m args below meth c (MQ below (QV G P) args s 0 0 (va_Aof G)) 3 40 [(1, 0), (1, 0), (1, 0)] [] h 0) : ∀ (f : Nat) (l2 : Int) (h : HP), wX12_say_2 o s1 K40 f l2 h → V G p l e (rmD 8 0) s m args below meth c (MQ below (QV G P) args s 0 0 (va_Aof G)) 3 2 [(22, o), (6, s1), (0, l2)] [] h 0 := by
  intro f
  induction f with
  | zero =>
    intro l2 h hw
    exact hw.elim
  | succ f ih =>
    intro l2 h hw
    refine V.iload_n hc dX12_say_2 rfl rfl ?_
    refine V.aloadS_n hc dX12_say_3 rfl rfl ?_
    refine V.sLen hc ml_X12_166 rfl rfl dX12_say_4 ?_
    obtain ⟨g1, hw⟩ := hw
    obtain ⟨g2, hw⟩ := hw
    refine V.icmp_ge hc (tgt := 40) dX12_say_7 (by decide) g1 g2 (fun c3 => ?_) (fun c3 => ?_)
    · replace hw := hw.1 c3
      refine V.drop (lo' := [(1, 0), (1, 0), (1, 0)]) ⟨Or.inl rfl, Or.inl rfl, Or.inl rfl, trivial⟩ ?_
      exact hK40 _ hw
    · replace hw := hw.2 c3
      refine V.aload_n (t := 12) hc dX12_say_10 rfl rfl ?_
      refine V.gR hc gR_X12_97 (i' := o) rfl dX12_say_11 ?_
      refine V.aload_n (t := 12) hc dX12_say_14 rfl rfl ?_
      refine V.gI hc gI_X12_443 rfl dX12_say_15 ?_
      refine V.aloadS_n hc dX12_say_18 rfl rfl ?_
      refine V.iload_n hc dX12_say_19 rfl rfl ?_
      obtain ⟨g4, hw⟩ := hw
      refine V.sChar hc ml_X12_170 rfl rfl g4 dX12_say_20 ?_
      obtain ⟨g6, hw⟩ := hw
      refine V.ast hc ak_70 g6 dX12_say_23 (fun h5 e => ?_)
      replace hw := hw h5 e
      clear e
      refine V.aload_n (t := 12) hc dX12_say_24 rfl rfl ?_
      refine V.dup hc dX12_say_25 (by simp) ?_
      refine V.gI hc gI_X12_443 rfl dX12_say_26 ?_
      refine V.iconst hc dX12_say_29 ?_
      refine V.iadd hc dX12_say_30 ?_
      refine V.pI hc pI_X12_443 rfl dX12_say_31 (fun h7 e => ?_)
      replace hw := hw h7 e
      clear e
      refine V.iinc hc dX12_say_34 rfl rfl (lo' := [(22, o), (6, s1), (0, l2 + 1)]) rfl ?_
      refine V.goto hc (tgt := 2) dX12_say_37 (by decide) ?_
      exact ih _ _ hw
theorem qX12_say (G : GG) (l : Launch) (o : Int) (s1 : Int) (h : HP) (P : HP → Prop) (hw : wX12_say o s1 h P) : CnV l G yX12_say cX12_say 3 8 [(22, o), (6, s1)] h P := by
  refine CnV.of (lo := [(22, o), (6, s1), (1, 0)]) (by decide) rfl rfl rfl ?_
  intro p e s m args below meth c hc hr
  have hc : VC G p (rmD 8 0) s m args meth c RX12 cX12_say 3 8 := hc
  refine V.iconst hc dX12_say_0 ?_
  refine V.istore_n hc dX12_say_1 rfl rfl (lo' := [(22, o), (6, s1), (0, 0)]) rfl ?_
  obtain ⟨f8, hw⟩ := hw
  refine tX12_say_2 hc hr ?_ f8 _ _ hw
  · intro h9 hw
    exact V.vret hc hr dX12_say_40 hw
theorem tX12_sayNumber_45 {G : GG} {p : Program} {l : Launch} {e : Jvm.Env} {s : State} {m : MethodId} {args : Array Value} {below : List Frame} {meth : Method} {c : Code} {P : HP → Prop} (hc : VC G p (rmD 8 0) s m args meth c RX12 cX12_sayNumber 3 8) (hr : meth.sig.returnType = none) {o : Int} {a1 : Int} {K85 : HP → Prop} (hK85 : ∀  (h : HP), K85  h → V G p l e (rmD 8 0) s m args below meth c (MQ below (QV G P) args s 0 0 (va_Aof G)) 3 85 [(1, 0), (1, 0), (1, 0)] [] h 0) : ∀ (f : Nat) (l2 : Int) (h : HP), wX12_sayNumber_45 o a1 K85 f l2 h → V G p l e (rmD 8 0) s m args below meth c (MQ below (QV G P) args s 0 0 (va_Aof G)) 3 45 [(22, o), (0, a1), (0, l2)] [] h 0 := by
  intro f
  induction f with
  | zero =>
    intro l2 h hw
    exact hw.elim
  | succ f ih =>
    intro l2 h hw
    refine V.iload_n hc dX12_sayNumber_45 rfl rfl ?_
    obtain ⟨g8, hw⟩ := hw
    refine V.if_le hc (tgt := 85) dX12_sayNumber_46 (by decide) g8 (fun c9 => ?_) (fun c9 => ?_)
    · replace hw := hw.1 c9
      refine V.drop (lo' := [(1, 0), (1, 0), (1, 0)]) ⟨Or.inl rfl, Or.inl rfl, Or.inl rfl, trivial⟩ ?_
      exact hK85 _ hw
    · replace hw := hw.2 c9
      refine V.aload_n (t := 12) hc dX12_sayNumber_49 rfl rfl ?_
      refine V.gR hc gR_X12_97 (i' := o) rfl dX12_sayNumber_50 ?_
      refine V.aload_n (t := 12) hc dX12_sayNumber_53 rfl rfl ?_
      refine V.gI hc gI_X12_443 rfl dX12_sayNumber_54 ?_
      refine V.bipush hc dX12_sayNumber_57 (by decide) ?_
      refine V.iload_n hc dX12_sayNumber_59 rfl rfl ?_
      refine V.iload_n hc dX12_sayNumber_60 rfl rfl ?_
      obtain ⟨g10, hw⟩ := hw
      obtain ⟨g11, hw⟩ := hw
      refine V.idiv hc g10 g11 dX12_sayNumber_61 ?_
      refine V.bipush hc dX12_sayNumber_62 (by decide) ?_
      obtain ⟨g12, hw⟩ := hw
      refine V.irem hc g12 (by omega) dX12_sayNumber_64 ?_
      refine V.iadd hc dX12_sayNumber_65 ?_
      obtain ⟨g14, hw⟩ := hw
      refine V.ast hc ak_70 g14 dX12_sayNumber_66 (fun h13 e => ?_)
      replace hw := hw h13 e
      clear e
      refine V.aload_n (t := 12) hc dX12_sayNumber_67 rfl rfl ?_
      refine V.dup hc dX12_sayNumber_68 (by simp) ?_
      refine V.gI hc gI_X12_443 rfl dX12_sayNumber_69 ?_
      refine V.iconst hc dX12_sayNumber_72 ?_
      refine V.iadd hc dX12_sayNumber_73 ?_
      refine V.pI hc pI_X12_443 rfl dX12_sayNumber_74 (fun h15 e => ?_)
      replace hw := hw h15 e
      clear e
      refine V.iload_n hc dX12_sayNumber_77 rfl rfl ?_
      refine V.bipush hc dX12_sayNumber_78 (by decide) ?_
      obtain ⟨g16, hw⟩ := hw
      refine V.idiv hc g16 (by omega) dX12_sayNumber_80 ?_
      refine V.istore_n hc dX12_sayNumber_81 rfl rfl (lo' := [(22, o), (0, a1), (0, l2 / 10)]) rfl ?_
      refine V.goto hc (tgt := 45) dX12_sayNumber_82 (by decide) ?_
      exact ih _ _ hw
theorem qX12_sayNumber (G : GG) (l : Launch) (o : Int) (a1 : Int) (h : HP) (P : HP → Prop) (hw : wX12_sayNumber o a1 h P) : CnV l G yX12_sayNumber cX12_sayNumber 3 8 [(22, o), (0, a1)] h P := by
  refine CnV.of (lo := [(22, o), (0, a1), (1, 0)]) (by decide) rfl rfl rfl ?_
  intro p e s m args below meth c hc hr
  have hc : VC G p (rmD 8 0) s m args meth c RX12 cX12_sayNumber 3 8 := hc
  refine V.aload_n (t := 12) hc dX12_sayNumber_0 rfl rfl ?_
  refine V.gR hc gR_X12_97 (i' := o) rfl dX12_sayNumber_1 ?_
  refine V.aload_n (t := 12) hc dX12_sayNumber_4 rfl rfl ?_
  refine V.gI hc gI_X12_443 rfl dX12_sayNumber_5 ?_
  refine V.bipush hc dX12_sayNumber_8 (by decide) ?_
  obtain ⟨g2, hw⟩ := hw
  refine V.ast hc ak_70 g2 dX12_sayNumber_10 (fun h1 e => ?_)
  replace hw := hw h1 e
  clear e
  refine V.aload_n (t := 12) hc dX12_sayNumber_11 rfl rfl ?_
  refine V.dup hc dX12_sayNumber_12 (by simp) ?_
  refine V.gI hc gI_X12_443 rfl dX12_sayNumber_13 ?_
  refine V.iconst hc dX12_sayNumber_16 ?_
  refine V.iadd hc dX12_sayNumber_17 ?_
  refine V.pI hc pI_X12_443 rfl dX12_sayNumber_18 (fun h3 e => ?_)
  replace hw := hw h3 e
  clear e
  refine V.iload_n hc dX12_sayNumber_21 rfl rfl ?_
  refine V.bipush hc dX12_sayNumber_22 (by decide) ?_
  obtain ⟨q7, hw⟩ := hw
  have kJ19 : ∀ t6 : Int, ((a1 ≤ 99 → ((a1 ≤ 9 → t6 = 1) ∧ (¬ a1 ≤ 9 → t6 = 10))) ∧ (¬ a1 ≤ 99 → t6 = 100)) → V G p l e (rmD 8 0) s m args below meth c (MQ below (QV G P) args s 0 0 (va_Aof G)) 3 44 [(22, o), (0, a1), (1, 0)] [(0, t6)] h3 0 := by
    intro t6 he
    replace hw := hw t6 he
    clear he
    refine V.istore_n hc dX12_sayNumber_44 rfl rfl (lo' := [(22, o), (0, a1), (0, t6)]) rfl ?_
    obtain ⟨f17, hw⟩ := hw
    refine tX12_sayNumber_45 hc hr ?_ f17 _ _ hw
    · intro h18 hw
      exact V.vret hc hr dX12_sayNumber_85 hw
  obtain ⟨g4, q20⟩ := q7
  refine V.icmp_le hc (tgt := 32) dX12_sayNumber_24 (by decide) g4 (by omega) (fun c21 => ?_) (fun c21 => ?_)
  · have q22 := q20 c21
    have g5 := q22
    refine V.iload_n hc dX12_sayNumber_32 rfl rfl ?_
    refine V.bipush hc dX12_sayNumber_33 (by decide) ?_
    refine V.icmp_le hc (tgt := 43) dX12_sayNumber_35 (by decide) g5 (by omega) (fun c23 => ?_) (fun c23 => ?_)
    · refine V.iconst hc dX12_sayNumber_43 ?_
      exact kJ19 _ ⟨fun _ => ⟨fun _ => rfl, (fun q => absurd c23 q)⟩, (fun q => absurd c21 q)⟩
    · refine V.bipush hc dX12_sayNumber_38 (by decide) ?_
      refine V.goto hc (tgt := 44) dX12_sayNumber_40 (by decide) ?_
      exact kJ19 _ ⟨fun _ => ⟨(fun q => absurd q c23), fun _ => rfl⟩, (fun q => absurd c21 q)⟩
  · refine V.bipush hc dX12_sayNumber_27 (by decide) ?_
    refine V.goto hc (tgt := 44) dX12_sayNumber_29 (by decide) ?_
    exact kJ19 _ ⟨(fun q => absurd q c21), fun _ => rfl⟩
theorem tX12_told_96 {G : GG} {p : Program} {l : Launch} {e : Jvm.Env} {s : State} {m : MethodId} {args : Array Value} {below : List Frame} {meth : Method} {c : Code} {P : Int → HP → Prop} (hc : VC G p (rmD 10 0) s m args meth c RX12 cX12_told 5 10) (hr : meth.sig.returnType = some .int) {o : Int} {a1 : Int} {a2 : Int} {l3 : Int} {K125 : HP → Prop} (hK125 : ∀  (h : HP), K125  h → V G p l e (rmD 10 0) s m args below meth c (MQ below (QI G P) args s 0 0 (va_Aof G)) 5 125 [(22, o), (0, a1), (0, a2), (0, l3), (1, 0)] [] h 0) : ∀ (f : Nat) (l4 : Int) (h : HP), wX12_told_96 o a1 a2 l3 K125 f l4 h → V G p l e (rmD 10 0) s m args below meth c (MQ below (QI G P) args s 0 0 (va_Aof G)) 5 96 [(22, o), (0, a1), (0, a2), (0, l3), (0, l4)] [] h 0 := by
  intro f
  induction f with
  | zero =>
    intro l4 h hw
    exact hw.elim
  | succ f ih =>
    intro l4 h hw
    refine V.iload hc dX12_told_96 rfl ?_
    refine V.iconst hc dX12_told_98 ?_
    obtain ⟨g20, hw⟩ := hw
    refine V.icmp_ge hc (tgt := 125) dX12_told_99 (by decide) g20 (by omega) (fun c21 => ?_) (fun c21 => ?_)
    · replace hw := hw.1 c21
      refine V.drop (lo' := [(22, o), (0, a1), (0, a2), (0, l3), (1, 0)]) ⟨Or.inr rfl, Or.inr rfl, Or.inr rfl, Or.inr rfl, Or.inl rfl, trivial⟩ ?_
      exact hK125 _ hw
    · replace hw := hw.2 c21
      refine V.aload_n (t := 12) hc dX12_told_102 rfl rfl ?_
      refine V.aload_n (t := 12) hc dX12_told_103 rfl rfl ?_
      refine V.gR hc gR_X12_43 (i' := o) rfl dX12_told_104 ?_
      refine V.iload_n hc dX12_told_107 rfl rfl ?_
      refine V.iload_n hc dX12_told_108 rfl rfl ?_
      refine V.callSI hc (qX12_curveAt G l _ _ _ _ hw) mo_X12_curveAt ml_X12_245 (as := [(0, a1), (0, l3)]) rfl rfl rfl rfl rfl ⟨Nat.zero_le _, Nat.zero_le _⟩ dX12_told_109 (fun x23 h22 hw => ?_)
      refine V.iload hc dX12_told_112 rfl ?_
      refine V.iadd hc dX12_told_114 ?_
      obtain ⟨g24, hw⟩ := hw
      refine V.ald hc ak_56 g24 dX12_told_115 ?_
      refine V.callVV hc (qX12_sayNumber G l _ _ _ _ hw) mo_X12_sayNumber ml_X12_452 (by rfl) rfl rfl (as := [(0, h22 56 o (x23 + l4))]) rfl rfl rfl rfl rfl ⟨Nat.zero_le _, Nat.zero_le _⟩ dX12_told_116 (fun h25 hw => ?_)
      refine V.iinc hc dX12_told_119 rfl rfl (lo' := [(22, o), (0, a1), (0, a2), (0, l3), (0, l4 + 1)]) rfl ?_
      refine V.goto hc (tgt := 96) dX12_told_122 (by decide) ?_
      exact ih _ _ hw
theorem tX12_told_125 {G : GG} {p : Program} {l : Launch} {e : Jvm.Env} {s : State} {m : MethodId} {args : Array Value} {below : List Frame} {meth : Method} {c : Code} {P : Int → HP → Prop} (hc : VC G p (rmD 10 0) s m args meth c RX12 cX12_told 5 10) (hr : meth.sig.returnType = some .int) {o : Int} {a1 : Int} {a2 : Int} {l3 : Int} {h : HP} {K59 : Int → HP → Prop} (hK59 : ∀ (x3 : Int) (h : HP), K59 x3 h → V G p l e (rmD 10 0) s m args below meth c (MQ below (QI G P) args s 0 0 (va_Aof G)) 5 59 [(22, o), (0, a1), (0, a2), (0, x3), (1, 0)] [] h 0) (hw : wX12_told_125 o a1 a2 l3 K59 h) : V G p l e (rmD 10 0) s m args below meth c (MQ below (QI G P) args s 0 0 (va_Aof G)) 5 125 [(22, o), (0, a1), (0, a2), (0, l3), (1, 0)] [] h 0 := by
  refine V.iinc hc dX12_told_125 rfl rfl (lo' := [(22, o), (0, a1), (0, a2), (0, l3 + 1), (1, 0)]) rfl ?_
  refine V.goto hc (tgt := 59) dX12_told_128 (by decide) ?_
  exact hK59 _ _ hw
theorem tX12_told_59 {G : GG} {p : Program} {l : Launch} {e : Jvm.Env} {s : State} {m : MethodId} {args : Array Value} {below : List Frame} {meth : Method} {c : Code} {P : Int → HP → Prop} (hc : VC G p (rmD 10 0) s m args meth c RX12 cX12_told 5 10) (hr : meth.sig.returnType = some .int) {o : Int} {a1 : Int} {a2 : Int} {K131 : HP → Prop} (hK131 : ∀  (h : HP), K131  h → V G p l e (rmD 10 0) s m args below meth c (MQ below (QI G P) args s 0 0 (va_Aof G)) 5 131 [(22, o), (1, 0), (0, a2), (1, 0), (1, 0)] [] h 0) : ∀ (f : Nat) (l3 : Int) (h : HP), wX12_told_59 o a1 a2 K131 f l3 h → V G p l e (rmD 10 0) s m args below meth c (MQ below (QI G P) args s 0 0 (va_Aof G)) 5 59 [(22, o), (0, a1), (0, a2), (0, l3), (1, 0)] [] h 0 := by
  intro f
  induction f with
  | zero =>
    intro l3 h hw
    exact hw.elim
  | succ f ih =>
    intro l3 h hw
    refine V.iload_n hc dX12_told_59 rfl rfl ?_
    refine V.iconst hc dX12_told_60 ?_
    obtain ⟨g11, hw⟩ := hw
    refine V.icmp_ge hc (tgt := 131) dX12_told_61 (by decide) g11 (by omega) (fun c12 => ?_) (fun c12 => ?_)
    · replace hw := hw.1 c12
      refine V.drop (lo' := [(22, o), (1, 0), (0, a2), (1, 0), (1, 0)]) ⟨Or.inr rfl, Or.inl rfl, Or.inr rfl, Or.inl rfl, Or.inr rfl, trivial⟩ ?_
      exact hK131 _ hw
    · replace hw := hw.2 c12
      refine V.aload_n (t := 12) hc dX12_told_64 rfl rfl ?_
      refine V.iload_n hc dX12_told_65 rfl rfl ?_
      refine V.iload_n hc dX12_told_66 rfl rfl ?_
      refine V.callVI hc (qX12_hasCurve G l _ _ _ _ _ hw) mo_X12_hasCurve ml_X12_283 (by rfl) rfl rfl (as := [(0, a1), (0, l3)]) rfl rfl rfl rfl rfl ⟨Nat.zero_le _, Nat.zero_le _⟩ dX12_told_67 (fun x14 h13 hw => ?_)
      obtain ⟨g15, hw⟩ := hw
      refine V.if_ne hc (tgt := 76) dX12_told_70 (by decide) g15 (fun c16 => ?_) (fun c16 => ?_)
      · replace hw := hw.1 c16
        refine V.aload_n (t := 12) hc dX12_told_76 rfl rfl ?_
        refine V.ldcwS hc sl_X12_455 rfl rfl dX12_told_77 ?_
        refine V.callVV hc (qX12_say G l _ _ _ _ hw) mo_X12_say ml_X12_446 (by rfl) rfl rfl (as := [(6, 8)]) rfl rfl rfl rfl rfl ⟨Nat.zero_le _, Nat.zero_le _⟩ dX12_told_80 (fun h17 hw => ?_)
        refine V.aload_n (t := 12) hc dX12_told_83 rfl rfl ?_
        refine V.aload_n (t := 12) hc dX12_told_84 rfl rfl ?_
        refine V.gR hc gR_X12_15 (i' := o) rfl dX12_told_85 ?_
        refine V.iload_n hc dX12_told_88 rfl rfl ?_
        obtain ⟨g18, hw⟩ := hw
        refine V.saald hc g18 dX12_told_89 ?_
        refine V.callVV hc (qX12_say G l _ _ _ _ hw) mo_X12_say ml_X12_446 (by rfl) rfl rfl (as := [(6, l3)]) rfl rfl rfl rfl rfl ⟨Nat.zero_le _, Nat.zero_le _⟩ dX12_told_90 (fun h19 hw => ?_)
        refine V.iconst hc dX12_told_93 ?_
        refine V.istore hc dX12_told_94 rfl (lo' := [(22, o), (0, a1), (0, a2), (0, l3), (0, 1)]) rfl ?_
        obtain ⟨f26, hw⟩ := hw
        refine tX12_told_96 hc hr ?_ f26 _ _ hw
        · intro h27 hw
          exact tX12_told_125 hc hr (fun y3 hy hw => by exact ih _ _ hw) hw
      · replace hw := hw.2 c16
        refine V.goto hc (tgt := 125) dX12_told_73 (by decide) ?_
        exact tX12_told_125 hc hr (fun y3 hy hw => by exact ih _ _ hw) hw
theorem tX12_told_57 {G : GG} {p : Program} {l : Launch} {e : Jvm.Env} {s : State} {m : MethodId} {args : Array Value} {below : List Frame} {meth : Method} {c : Code} {P : Int → HP → Prop} (hc : VC G p (rmD 10 0) s m args meth c RX12 cX12_told 5 10) (hr : meth.sig.returnType = some .int) {o : Int} {a1 : Int} {a2 : Int} {h : HP} (hw : wX12_told_57 o a1 a2 P h) : V G p l e (rmD 10 0) s m args below meth c (MQ below (QI G P) args s 0 0 (va_Aof G)) 5 57 [(22, o), (0, a1), (0, a2), (1, 0), (1, 0)] [] h 0 := by
  refine V.iconst hc dX12_told_57 ?_
  refine V.istore_n hc dX12_told_58 rfl rfl (lo' := [(22, o), (0, a1), (0, a2), (0, 0), (1, 0)]) rfl ?_
  obtain ⟨f28, hw⟩ := hw
  refine tX12_told_59 hc hr ?_ f28 _ _ hw
  · intro h29 hw
    refine V.aload_n (t := 12) hc dX12_told_131 rfl rfl ?_
    refine V.ldcwS hc sl_X12_457 rfl rfl dX12_told_132 ?_
    refine V.callVV hc (qX12_say G l _ _ _ _ hw) mo_X12_say ml_X12_446 (by rfl) rfl rfl (as := [(6, 7)]) rfl rfl rfl rfl rfl ⟨Nat.zero_le _, Nat.zero_le _⟩ dX12_told_135 (fun h30 hw => ?_)
    refine V.iload_n hc dX12_told_138 rfl rfl ?_
    refine V.iconst hc dX12_told_139 ?_
    obtain ⟨g31, hw⟩ := hw
    refine V.icmp_ne hc (tgt := 150) dX12_told_140 (by decide) g31 (by omega) (fun c32 => ?_) (fun c32 => ?_)
    · replace hw := hw.1 c32
      refine V.iload_n hc dX12_told_150 rfl rfl ?_
      refine V.iconst hc dX12_told_151 ?_
      refine V.aload_n (t := 12) hc dX12_told_152 rfl rfl ?_
      refine V.gI hc gI_X12_443 rfl dX12_told_153 ?_
      refine V.iconst hc dX12_told_156 ?_
      refine V.isub hc dX12_told_157 ?_
      refine V.callSI hc (qX12_isIn G l _ _ _ _ _ hw) mo_X12_isIn ml_X12_356 (as := [(0, a2), (0, 0), (0, (h30 12 o 49) - 1)]) rfl rfl rfl rfl rfl ⟨Nat.zero_le _, Nat.zero_le _⟩ dX12_told_158 (fun x34 h33 hw => ?_)
      obtain ⟨g35, hw⟩ := hw
      refine V.if_eq hc (tgt := 173) dX12_told_161 (by decide) g35 (fun c36 => ?_) (fun c36 => ?_)
      · replace hw := hw.1 c36
        refine V.aload_n (t := 12) hc dX12_told_173 rfl rfl ?_
        refine V.iconst hc dX12_told_174 ?_
        refine V.callVI hc (qX12_fail G l _ _ _ _ hw) mo_X12_fail ml_X12_219 (by rfl) rfl rfl (as := [(0, 1)]) rfl rfl rfl rfl rfl ⟨Nat.zero_le _, Nat.zero_le _⟩ dX12_told_175 (fun x38 h37 hw => ?_)
        exact V.iret hc hr dX12_told_178 hw
      · replace hw := hw.2 c36
        refine V.aload_n (t := 12) hc dX12_told_164 rfl rfl ?_
        refine V.gR hc gR_X12_97 (i' := o) rfl dX12_told_165 ?_
        refine V.iload_n hc dX12_told_168 rfl rfl ?_
        obtain ⟨g39, hw⟩ := hw
        refine V.ald hc ak_70 g39 dX12_told_169 ?_
        refine V.goto hc (tgt := 178) dX12_told_170 (by decide) ?_
        exact V.iret hc hr dX12_told_178 hw
    · replace hw := hw.2 c32
      refine V.aload_n (t := 12) hc dX12_told_143 rfl rfl ?_
      refine V.gI hc gI_X12_443 rfl dX12_told_144 ?_
      refine V.goto hc (tgt := 178) dX12_told_147 (by decide) ?_
      exact V.iret hc hr dX12_told_178 hw
theorem qX12_told (G : GG) (l : Launch) (o : Int) (a1 : Int) (a2 : Int) (h : HP) (P : Int → HP → Prop) (hw : wX12_told o a1 a2 h P) : CnI l G yX12_told cX12_told 5 (some .int) 10 [(22, o), (0, a1), (0, a2)] h P := by
  refine CnI.of (lo := [(22, o), (0, a1), (0, a2), (1, 0), (1, 0)]) (by decide) rfl rfl rfl ?_
  intro p e s m args below meth c hc hr
  have hc : VC G p (rmD 10 0) s m args meth c RX12 cX12_told 5 10 := hc
  refine V.aload_n (t := 12) hc dX12_told_0 rfl rfl ?_
  refine V.iconst hc dX12_told_1 ?_
  refine V.pI hc pI_X12_118 rfl dX12_told_2 (fun h1 e => ?_)
  replace hw := hw h1 e
  clear e
  refine V.aload_n (t := 12) hc dX12_told_5 rfl rfl ?_
  refine V.iload_n hc dX12_told_6 rfl rfl ?_
  refine V.callVI hc (qX12_isClass G l _ _ _ _ hw) mo_X12_isClass ml_X12_360 (by rfl) rfl rfl (as := [(0, a1)]) rfl rfl rfl rfl rfl ⟨Nat.zero_le _, Nat.zero_le _⟩ dX12_told_7 (fun x3 h2 hw => ?_)
  obtain ⟨g4, hw⟩ := hw
  refine V.if_ne hc (tgt := 19) dX12_told_10 (by decide) g4 (fun c5 => ?_) (fun c5 => ?_)
  · replace hw := hw.1 c5
    refine V.aload_n (t := 12) hc dX12_told_19 rfl rfl ?_
    refine V.iconst hc dX12_told_20 ?_
    refine V.pI hc pI_X12_443 rfl dX12_told_21 (fun h6 e => ?_)
    replace hw := hw h6 e
    clear e
    refine V.aload_n (t := 12) hc dX12_told_24 rfl rfl ?_
    refine V.ldcS hc sl_X12_209 rfl rfl dX12_told_25 ?_
    refine V.callVV hc (qX12_say G l _ _ _ _ hw) mo_X12_say ml_X12_446 (by rfl) rfl rfl (as := [(6, 3)]) rfl rfl rfl rfl rfl ⟨Nat.zero_le _, Nat.zero_le _⟩ dX12_told_27 (fun h7 hw => ?_)
    refine V.aload_n (t := 12) hc dX12_told_30 rfl rfl ?_
    refine V.gR hc gR_X12_25 (i' := o) rfl dX12_told_31 ?_
    refine V.iload_n hc dX12_told_34 rfl rfl ?_
    obtain ⟨g8, hw⟩ := hw
    refine V.ald hc ak_50 g8 dX12_told_35 ?_
    refine V.iconst hc dX12_told_36 ?_
    obtain ⟨g9, hw⟩ := hw
    refine V.icmp_eq hc (tgt := 57) dX12_told_37 (by decide) g9 (by omega) (fun c10 => ?_) (fun c10 => ?_)
    · replace hw := hw.1 c10
      exact tX12_told_57 hc hr  hw
    · replace hw := hw.2 c10
      refine V.aload_n (t := 12) hc dX12_told_40 rfl rfl ?_
      refine V.ldcwS hc sl_X12_450 rfl rfl dX12_told_41 ?_
      refine V.callVV hc (qX12_say G l _ _ _ _ hw) mo_X12_say ml_X12_446 (by rfl) rfl rfl (as := [(6, 6)]) rfl rfl rfl rfl rfl ⟨Nat.zero_le _, Nat.zero_le _⟩ dX12_told_44 (fun h40 hw => ?_)
      refine V.aload_n (t := 12) hc dX12_told_47 rfl rfl ?_
      refine V.aload_n (t := 12) hc dX12_told_48 rfl rfl ?_
      refine V.gR hc gR_X12_25 (i' := o) rfl dX12_told_49 ?_
      refine V.iload_n hc dX12_told_52 rfl rfl ?_
      obtain ⟨g41, hw⟩ := hw
      refine V.ald hc ak_50 g41 dX12_told_53 ?_
      refine V.callVV hc (qX12_sayNumber G l _ _ _ _ hw) mo_X12_sayNumber ml_X12_452 (by rfl) rfl rfl (as := [(0, h40 50 o a1)]) rfl rfl rfl rfl rfl ⟨Nat.zero_le _, Nat.zero_le _⟩ dX12_told_54 (fun h42 hw => ?_)
      exact tX12_told_57 hc hr  hw
  · replace hw := hw.2 c5
    refine V.aload_n (t := 12) hc dX12_told_13 rfl rfl ?_
    refine V.iconst hc dX12_told_14 ?_
    refine V.callVI hc (qX12_fail G l _ _ _ _ hw) mo_X12_fail ml_X12_219 (by rfl) rfl rfl (as := [(0, 1)]) rfl rfl rfl rfl rfl ⟨Nat.zero_le _, Nat.zero_le _⟩ dX12_told_15 (fun x44 h43 hw => ?_)
    exact V.iret hc hr dX12_told_18 hw
