theorem tL_number_2 {G : GG} {p : Program} {l : Launch} {e : Jvm.Env} {s : State} {m : MethodId} {args : Array Value} {below : List Frame} {meth : Method} {c : Code} {o : Int} {P : HP → Prop} (hc : VC G p (rmD 4 0) s m args meth c RL cL_number 4 4) (hr : meth.sig.returnType = none) (hG : LG G) (hO : OB G o) {a2 : Int} {h : HP} {K18 : Int → Prop} (hK18 : ∀ (x3 : Int), K18 x3 → V G p l e (rmD 4 0) s m args below meth c (MQ below (QV G P) args s 0 0 (va_Aof G)) 4 18 [(3, o), (3, 3), (0, a2), (0, x3)] [] h 0) : ∀ (f : Nat) (l3 : Int), wL_number_2 G o a2 h K18 f l3 → V G p l e (rmD 4 0) s m args below meth c (MQ below (QV G P) args s 0 0 (va_Aof G)) 4 2 [(3, o), (3, 3), (0, a2), (0, l3)] [] h 0 := by
  intro f
  induction f with
  | zero =>
    intro l3 hw
    exact hw.elim
  | succ f ih =>
    intro l3 hw
    refine V.iload_n hc dL_number_2 rfl rfl ?_
    refine V.iload_n hc dL_number_3 rfl rfl ?_
    refine V.bipush hc dL_number_4 (by decide) ?_
    obtain ⟨g1, hw⟩ := hw
    refine V.idiv hc g1 (by omega) dL_number_6 ?_
    obtain ⟨g2, hw⟩ := hw
    obtain ⟨g3, hw⟩ := hw
    refine V.icmp_gt hc (tgt := 18) dL_number_7 (by decide) g2 g3 (fun c4 => ?_) (fun c4 => ?_)
    · replace hw := hw.1 c4
      exact hK18 _ hw
    · replace hw := hw.2 c4
      refine V.iload_n hc dL_number_10 rfl rfl ?_
      refine V.bipush hc dL_number_11 (by decide) ?_
      refine V.imul hc dL_number_13 ?_
      refine V.istore_n hc dL_number_14 rfl rfl (lo' := [(3, o), (3, 3), (0, a2), (0, l3 * 10)]) rfl ?_
      refine V.goto hc (tgt := 2) dL_number_15 (by decide) ?_
      exact ih _ hw
theorem tL_number_18 {G : GG} {p : Program} {l : Launch} {e : Jvm.Env} {s : State} {m : MethodId} {args : Array Value} {below : List Frame} {meth : Method} {c : Code} {o : Int} {P : HP → Prop} (hc : VC G p (rmD 4 0) s m args meth c RL cL_number 4 4) (hr : meth.sig.returnType = none) (hG : LG G) (hO : OB G o) {a2 : Int} {K44 : HP → Prop} (hK44 : ∀  (h : HP), K44  h → V G p l e (rmD 4 0) s m args below meth c (MQ below (QV G P) args s 0 0 (va_Aof G)) 4 44 [(1, 0), (1, 0), (1, 0), (1, 0)] [] h 0) : ∀ (f : Nat) (l3 : Int) (h : HP), wL_number_18 G o a2 K44 f l3 h → V G p l e (rmD 4 0) s m args below meth c (MQ below (QV G P) args s 0 0 (va_Aof G)) 4 18 [(3, o), (3, 3), (0, a2), (0, l3)] [] h 0 := by
  intro f
  induction f with
  | zero =>
    intro l3 h hw
    exact hw.elim
  | succ f ih =>
    intro l3 h hw
    refine V.iload_n hc dL_number_18 rfl rfl ?_
    obtain ⟨g7, hw⟩ := hw
    refine V.if_le hc (tgt := 44) dL_number_19 (by decide) g7 (fun c8 => ?_) (fun c8 => ?_)
    · replace hw := hw.1 c8
      refine V.drop (lo' := [(1, 0), (1, 0), (1, 0), (1, 0)]) ⟨Or.inl rfl, Or.inl rfl, Or.inl rfl, Or.inl rfl, trivial⟩ ?_
      exact hK44 _ hw
    · replace hw := hw.2 c8
      refine V.aloadC_n hc hO.rf dL_number_22 rfl rfl ?_
      refine V.aloadC_n hc hG.e3.rf dL_number_23 rfl rfl ?_
      refine V.bipush hc dL_number_24 (by decide) ?_
      refine V.iload_n hc dL_number_26 rfl rfl ?_
      refine V.iload_n hc dL_number_27 rfl rfl ?_
      obtain ⟨g9, hw⟩ := hw
      obtain ⟨g10, hw⟩ := hw
      refine V.idiv hc g9 g10 dL_number_28 ?_
      refine V.bipush hc dL_number_29 (by decide) ?_
      obtain ⟨g11, hw⟩ := hw
      refine V.irem hc g11 (by omega) dL_number_31 ?_
      refine V.iadd hc dL_number_32 ?_
      refine V.callSV hc (qL_add G l hG _ _ _ _ hO hw) mo_L_add ml_L_14 (as := [(3, o), (3, 3), (0, 48 + ((a2 / l3) % 10))]) rfl rfl rfl rfl rfl ⟨Nat.zero_le _, Nat.zero_le _⟩ dL_number_33 (fun h12 hw => ?_)
      refine V.iload_n hc dL_number_36 rfl rfl ?_
      refine V.bipush hc dL_number_37 (by decide) ?_
      obtain ⟨g13, hw⟩ := hw
      refine V.idiv hc g13 (by omega) dL_number_39 ?_
      refine V.istore_n hc dL_number_40 rfl rfl (lo' := [(3, o), (3, 3), (0, a2), (0, l3 / 10)]) rfl ?_
      refine V.goto hc (tgt := 18) dL_number_41 (by decide) ?_
      exact ih _ _ hw
theorem qL_number (G : GG) (l : Launch) (hG : LG G) (o : Int) (a2 : Int) (h : HP) (P : HP → Prop) (hO : OB G o) (hw : wL_number G o a2 h P) : CnV l G yL_number cL_number 4 4 [(3, o), (3, 3), (0, a2)] h P := by
  refine CnV.of (lo := [(3, o), (3, 3), (0, a2), (1, 0)]) (by decide) rfl rfl rfl ?_
  intro p e s m args below meth c hc hr
  have hc : VC G p (rmD 4 0) s m args meth c RL cL_number 4 4 := hc
  refine V.iconst hc dL_number_0 ?_
  refine V.istore_n hc dL_number_1 rfl rfl (lo' := [(3, o), (3, 3), (0, a2), (0, 1)]) rfl ?_
  obtain ⟨f5, hw⟩ := hw
  refine tL_number_2 hc hr hG hO ?_ f5 _ hw
  · intro l6 hw
    obtain ⟨f14, hw⟩ := hw
    refine tL_number_18 hc hr hG hO ?_ f14 _ _ hw
    · intro h15 hw
      exact V.vret hc hr dL_number_44 hw
theorem tL_end_4 {G : GG} {p : Program} {l : Launch} {e : Jvm.Env} {s : State} {m : MethodId} {args : Array Value} {below : List Frame} {meth : Method} {c : Code} {o : Int} {P : Int → HP → Prop} (hc : VC G p (rmD 4 0) s m args meth c RL cL_end 3 4) (hr : meth.sig.returnType = some .int) (hG : LG G) (hO : OB G o) {l2 : Int} {K23 : HP → Prop} (hK23 : ∀  (h : HP), K23  h → V G p l e (rmD 4 0) s m args below meth c (MQ below (QI G P) args s 0 0 (va_Aof G)) 3 23 [(1, 0), (3, 3), (0, l2)] [] h 0) : ∀ (f : Nat)  (h : HP), wL_end_4 G o l2 K23 f  h → V G p l e (rmD 4 0) s m args below meth c (MQ below (QI G P) args s 0 0 (va_Aof G)) 3 4 [(3, o), (3, 3), (0, l2)] [] h 0 := by
  intro f
  induction f with
  | zero =>
    intro h hw
    exact hw.elim
  | succ f ih =>
    intro h hw
    refine V.aloadC_n hc hG.e3.rf dL_end_4 rfl rfl ?_
    refine V.iconst hc dL_end_5 ?_
    refine V.lald (ln := 6) hc hG.e3 (by decide) rfl (by omega) dL_end_6 ?_
    refine V.bipush hc dL_end_7 (by decide) ?_
    obtain ⟨g1, hw⟩ := hw
    refine V.irem hc g1 (by omega) dL_end_9 ?_
    obtain ⟨g2, hw⟩ := hw
    refine V.if_eq hc (tgt := 23) dL_end_10 (by decide) g2 (fun c3 => ?_) (fun c3 => ?_)
    · replace hw := hw.1 c3
      refine V.drop (lo' := [(1, 0), (3, 3), (0, l2)]) ⟨Or.inl rfl, Or.inr rfl, Or.inr rfl, trivial⟩ ?_
      exact hK23 _ hw
    · replace hw := hw.2 c3
      refine V.aloadC_n hc hO.rf dL_end_13 rfl rfl ?_
      refine V.aloadC_n hc hG.e3.rf dL_end_14 rfl rfl ?_
      refine V.bipush hc dL_end_15 (by decide) ?_
      refine V.callSV hc (qL_add G l hG _ _ _ _ hO hw) mo_L_add ml_L_14 (as := [(3, o), (3, 3), (0, 32)]) rfl rfl rfl rfl rfl ⟨Nat.zero_le _, Nat.zero_le _⟩ dL_end_17 (fun h4 hw => ?_)
      refine V.goto hc (tgt := 4) dL_end_20 (by decide) ?_
      exact ih _ hw
theorem qL_end (G : GG) (l : Launch) (hG : LG G) (o : Int) (h : HP) (P : Int → HP → Prop) (hO : OB G o) (hw : wL_end G o h P) : CnI l G yL_end cL_end 3 (some .int) 4 [(3, o), (3, 3)] h P := by
  refine CnI.of (lo := [(3, o), (3, 3), (1, 0)]) (by decide) rfl rfl rfl ?_
  intro p e s m args below meth c hc hr
  have hc : VC G p (rmD 4 0) s m args meth c RL cL_end 3 4 := hc
  refine V.aloadC_n hc hG.e3.rf dL_end_0 rfl rfl ?_
  refine V.iconst hc dL_end_1 ?_
  refine V.lald (ln := 6) hc hG.e3 (by decide) rfl (by omega) dL_end_2 ?_
  refine V.istore_n hc dL_end_3 rfl rfl (lo' := [(3, o), (3, 3), (0, h (kd 3) 0 5)]) rfl ?_
  obtain ⟨f5, hw⟩ := hw
  refine tL_end_4 hc hr hG hO ?_ f5 _ hw
  · intro h6 hw
    refine V.aloadC_n hc hG.e3.rf dL_end_23 rfl rfl ?_
    refine V.iconst hc dL_end_24 ?_
    refine V.iconst hc dL_end_25 ?_
    refine V.last (ln := 6) hc hG.e3 (by decide) rfl (by omega) dL_end_26 (fun h7 e => ?_)
    replace hw := hw h7 e
    clear e
    refine V.iload_n hc dL_end_27 rfl rfl ?_
    exact V.iret hc hr dL_end_28 hw
theorem qL_three (G : GG) (l : Launch) (hG : LG G) (o : Int) (a2 : Int) (a3 : Int) (a4 : Int) (h : HP) (P : HP → Prop) (hO : OB G o) (hw : wL_three G o a2 a3 a4 h P) : CnV l G yL_three cL_three 5 5 [(3, o), (3, 3), (0, a2), (0, a3), (0, a4)] h P := by
  refine CnV.of (lo := [(3, o), (3, 3), (0, a2), (0, a3), (0, a4)]) (by decide) rfl rfl rfl ?_
  intro p e s m args below meth c hc hr
  have hc : VC G p (rmD 5 0) s m args meth c RL cL_three 5 5 := hc
  refine V.aloadC_n hc hO.rf dL_three_0 rfl rfl ?_
  refine V.aloadC_n hc hG.e3.rf dL_three_1 rfl rfl ?_
  refine V.bipush hc dL_three_2 (by decide) ?_
  refine V.callSV hc (qL_add G l hG _ _ _ _ hO hw) mo_L_add ml_L_14 (as := [(3, o), (3, 3), (0, 32)]) rfl rfl rfl rfl rfl ⟨Nat.zero_le _, Nat.zero_le _⟩ dL_three_4 (fun h1 hw => ?_)
  refine V.aloadC_n hc hO.rf dL_three_7 rfl rfl ?_
  refine V.aloadC_n hc hG.e3.rf dL_three_8 rfl rfl ?_
  refine V.iload_n hc dL_three_9 rfl rfl ?_
  refine V.callSV hc (qL_number G l hG _ _ _ _ hO hw) mo_L_number ml_L_41 (as := [(3, o), (3, 3), (0, a2)]) rfl rfl rfl rfl rfl ⟨Nat.zero_le _, Nat.zero_le _⟩ dL_three_10 (fun h2 hw => ?_)
  refine V.aloadC_n hc hO.rf dL_three_13 rfl rfl ?_
  refine V.aloadC_n hc hG.e3.rf dL_three_14 rfl rfl ?_
  refine V.bipush hc dL_three_15 (by decide) ?_
  refine V.callSV hc (qL_add G l hG _ _ _ _ hO hw) mo_L_add ml_L_14 (as := [(3, o), (3, 3), (0, 32)]) rfl rfl rfl rfl rfl ⟨Nat.zero_le _, Nat.zero_le _⟩ dL_three_17 (fun h3 hw => ?_)
  refine V.aloadC_n hc hO.rf dL_three_20 rfl rfl ?_
  refine V.aloadC_n hc hG.e3.rf dL_three_21 rfl rfl ?_
  refine V.iload_n hc dL_three_22 rfl rfl ?_
  refine V.callSV hc (qL_number G l hG _ _ _ _ hO hw) mo_L_number ml_L_41 (as := [(3, o), (3, 3), (0, a3)]) rfl rfl rfl rfl rfl ⟨Nat.zero_le _, Nat.zero_le _⟩ dL_three_23 (fun h4 hw => ?_)
  refine V.aloadC_n hc hO.rf dL_three_26 rfl rfl ?_
  refine V.aloadC_n hc hG.e3.rf dL_three_27 rfl rfl ?_
  refine V.bipush hc dL_three_28 (by decide) ?_
  refine V.callSV hc (qL_add G l hG _ _ _ _ hO hw) mo_L_add ml_L_14 (as := [(3, o), (3, 3), (0, 32)]) rfl rfl rfl rfl rfl ⟨Nat.zero_le _, Nat.zero_le _⟩ dL_three_30 (fun h5 hw => ?_)
  refine V.aloadC_n hc hO.rf dL_three_33 rfl rfl ?_
  refine V.aloadC_n hc hG.e3.rf dL_three_34 rfl rfl ?_
  refine V.iload hc dL_three_35 rfl ?_
  refine V.callSV hc (qL_number G l hG _ _ _ _ hO hw) mo_L_number ml_L_41 (as := [(3, o), (3, 3), (0, a4)]) rfl rfl rfl rfl rfl ⟨Nat.zero_le _, Nat.zero_le _⟩ dL_three_37 (fun h6 hw => ?_)
  exact V.vret hc hr dL_three_40 hw
theorem tL_tell_216 {G : GG} {p : Program} {l : Launch} {e : Jvm.Env} {s : State} {m : MethodId} {args : Array Value} {below : List Frame} {meth : Method} {c : Code} {P : Int → HP → Prop} (hc : VC G p (rmD 13 0) s m args meth c RL cL_tell 9 13) (hr : meth.sig.returnType = some .boolean) (hG : LG G) {l5 : Int} {h : HP} {K3 : Int → HP → Prop} (hK3 : ∀ (x5 : Int) (h : HP), K3 x5 h → V G p l e (rmD 13 0) s m args below meth c (MQ below (QI G P) args s 0 0 (va_Aof G)) 9 3 [(3, 1), (3, 3), (3, 4), (3, 5), (3, 6), (0, x5), (1, 0), (1, 0), (1, 0)] [] h 0) (hw : wL_tell_216 G l5 K3 h) : V G p l e (rmD 13 0) s m args below meth c (MQ below (QI G P) args s 0 0 (va_Aof G)) 9 216 [(3, 1), (3, 3), (3, 4), (3, 5), (3, 6), (0, l5), (1, 0), (1, 0), (1, 0)] [] h 0 := by
  refine V.aloadC_n hc hG.o1.rf dL_tell_216 rfl rfl ?_
  refine V.aloadC_n hc hG.e3.rf dL_tell_217 rfl rfl ?_
  refine V.bipush hc dL_tell_218 (by decide) ?_
  refine V.callSV hc (qL_add G l hG _ _ _ _ hG.o1 hw) mo_L_add ml_L_14 (as := [(3, 1), (3, 3), (0, 59)]) rfl rfl rfl rfl rfl ⟨Nat.zero_le _, Nat.zero_le _⟩ dL_tell_220 (fun h36 hw => ?_)
  refine V.iinc hc dL_tell_223 rfl rfl (lo' := [(3, 1), (3, 3), (3, 4), (3, 5), (3, 6), (0, l5 + 1), (1, 0), (1, 0), (1, 0)]) rfl ?_
  refine V.goto hc (tgt := 3) dL_tell_226 (by decide) ?_
  exact hK3 _ _ hw
theorem tL_tell_168 {G : GG} {p : Program} {l : Launch} {e : Jvm.Env} {s : State} {m : MethodId} {args : Array Value} {below : List Frame} {meth : Method} {c : Code} {P : Int → HP → Prop} (hc : VC G p (rmD 13 0) s m args meth c RL cL_tell 9 13) (hr : meth.sig.returnType = some .boolean) (hG : LG G) {l5 : Int} {h : HP} {K3 : Int → HP → Prop} (hK3 : ∀ (x5 : Int) (h : HP), K3 x5 h → V G p l e (rmD 13 0) s m args below meth c (MQ below (QI G P) args s 0 0 (va_Aof G)) 9 3 [(3, 1), (3, 3), (3, 4), (3, 5), (3, 6), (0, x5), (1, 0), (1, 0), (1, 0)] [] h 0) (hw : wL_tell_168 G l5 K3 h) : V G p l e (rmD 13 0) s m args below meth c (MQ below (QI G P) args s 0 0 (va_Aof G)) 9 168 [(3, 1), (3, 3), (3, 4), (3, 5), (3, 6), (0, l5), (1, 0), (1, 0), (1, 0)] [] h 0 := by
  refine V.aloadC_n hc hG.e5.rf dL_tell_168 rfl rfl ?_
  refine V.iload hc dL_tell_169 rfl ?_
  obtain ⟨g32, hw⟩ := hw
  refine V.laald hc hG.e5 (hG.c g32) g32 dL_tell_171 ?_
  refine V.iconst hc dL_tell_172 ?_
  obtain ⟨g33, hw⟩ := hw
  refine V.laald2 hc hG.sl (hG.c g33) g33 (by omega) dL_tell_173 ?_
  obtain ⟨g34, hw⟩ := hw
  refine V.ifnull hc (tgt := 216) dL_tell_174 (by decide) g34 (fun c35 => ?_) (fun c35 => ?_)
  · replace hw := hw.1 c35
    exact tL_tell_216 hc hr hG (fun y5 hy hw => by exact hK3 _ _ hw) hw
  · replace hw := hw.2 c35
    refine V.aloadC_n hc hG.o1.rf dL_tell_177 rfl rfl ?_
    refine V.aloadC_n hc hG.e3.rf dL_tell_178 rfl rfl ?_
    refine V.ldcJ hc kj_L_60 dL_tell_179 ?_
    refine V.bipush hc dL_tell_182 (by decide) ?_
    refine V.callSV hc (qL_say G l hG _ _ _ _ _ hG.o1 hw) mo_L_say ml_L_46 (as := [(3, 1), (3, 3), (2, 35688769676658), (0, 6)]) rfl rfl rfl rfl rfl ⟨Nat.zero_le _, Nat.zero_le _⟩ dL_tell_184 (fun h37 hw => ?_)
    refine V.aloadC_n hc hG.o1.rf dL_tell_187 rfl rfl ?_
    refine V.aloadC_n hc hG.e3.rf dL_tell_188 rfl rfl ?_
    refine V.aloadC_n hc hG.e5.rf dL_tell_189 rfl rfl ?_
    refine V.iload hc dL_tell_190 rfl ?_
    obtain ⟨g38, hw⟩ := hw
    refine V.laald hc hG.e5 (hG.c g38) g38 dL_tell_192 ?_
    refine V.iconst hc dL_tell_193 ?_
    obtain ⟨g39, hw⟩ := hw
    refine V.laald2 hc hG.sl (hG.c g39) g39 (by omega) dL_tell_194 ?_
    refine V.iconst hc dL_tell_195 ?_
    obtain ⟨g40, hw⟩ := hw
    obtain ⟨g41, hw⟩ := hw
    refine V.lald (ln := 3) hc g40 (Or.inr (Or.inr (Or.inr (Or.inr g41)))) (lnL_3 g41) (by omega) dL_tell_196 ?_
    refine V.aloadC_n hc hG.e5.rf dL_tell_197 rfl rfl ?_
    refine V.iload hc dL_tell_198 rfl ?_
    obtain ⟨g42, hw⟩ := hw
    refine V.laald hc hG.e5 (hG.c g42) g42 dL_tell_200 ?_
    refine V.iconst hc dL_tell_201 ?_
    obtain ⟨g43, hw⟩ := hw
    refine V.laald2 hc hG.sl (hG.c g43) g43 (by omega) dL_tell_202 ?_
    refine V.iconst hc dL_tell_203 ?_
    obtain ⟨g44, hw⟩ := hw
    obtain ⟨g45, hw⟩ := hw
    refine V.lald (ln := 3) hc g44 (Or.inr (Or.inr (Or.inr (Or.inr g45)))) (lnL_3 g45) (by omega) dL_tell_204 ?_
    refine V.aloadC_n hc hG.e5.rf dL_tell_205 rfl rfl ?_
    refine V.iload hc dL_tell_206 rfl ?_
    obtain ⟨g46, hw⟩ := hw
    refine V.laald hc hG.e5 (hG.c g46) g46 dL_tell_208 ?_
    refine V.iconst hc dL_tell_209 ?_
    obtain ⟨g47, hw⟩ := hw
    refine V.laald2 hc hG.sl (hG.c g47) g47 (by omega) dL_tell_210 ?_
    refine V.iconst hc dL_tell_211 ?_
    obtain ⟨g48, hw⟩ := hw
    obtain ⟨g49, hw⟩ := hw
    refine V.lald (ln := 3) hc g48 (Or.inr (Or.inr (Or.inr (Or.inr g49)))) (lnL_3 g49) (by omega) dL_tell_212 ?_
    refine V.callSV hc (qL_three G l hG _ _ _ _ _ _ hG.o1 hw) mo_L_three ml_L_54 (as := [(3, 1), (3, 3), (0, h37 (kd (20 + 3 * l5 + 2)) 0 0), (0, h37 (kd (20 + 3 * l5 + 2)) 0 1), (0, h37 (kd (20 + 3 * l5 + 2)) 0 2)]) rfl rfl rfl rfl rfl ⟨Nat.zero_le _, Nat.zero_le _⟩ dL_tell_213 (fun h50 hw => ?_)
    exact tL_tell_216 hc hr hG (fun y5 hy hw => by exact hK3 _ _ hw) hw
theorem tL_tell_120 {G : GG} {p : Program} {l : Launch} {e : Jvm.Env} {s : State} {m : MethodId} {args : Array Value} {below : List Frame} {meth : Method} {c : Code} {P : Int → HP → Prop} (hc : VC G p (rmD 13 0) s m args meth c RL cL_tell 9 13) (hr : meth.sig.returnType = some .boolean) (hG : LG G) {l5 : Int} {h : HP} {K3 : Int → HP → Prop} (hK3 : ∀ (x5 : Int) (h : HP), K3 x5 h → V G p l e (rmD 13 0) s m args below meth c (MQ below (QI G P) args s 0 0 (va_Aof G)) 9 3 [(3, 1), (3, 3), (3, 4), (3, 5), (3, 6), (0, x5), (1, 0), (1, 0), (1, 0)] [] h 0) (hw : wL_tell_120 G l5 K3 h) : V G p l e (rmD 13 0) s m args below meth c (MQ below (QI G P) args s 0 0 (va_Aof G)) 9 120 [(3, 1), (3, 3), (3, 4), (3, 5), (3, 6), (0, l5), (1, 0), (1, 0), (1, 0)] [] h 0 := by
  refine V.aloadC_n hc hG.e5.rf dL_tell_120 rfl rfl ?_
  refine V.iload hc dL_tell_121 rfl ?_
  obtain ⟨g28, hw⟩ := hw
  refine V.laald hc hG.e5 (hG.c g28) g28 dL_tell_123 ?_
  refine V.iconst hc dL_tell_124 ?_
  obtain ⟨g29, hw⟩ := hw
  refine V.laald2 hc hG.sl (hG.c g29) g29 (by omega) dL_tell_125 ?_
  obtain ⟨g30, hw⟩ := hw
  refine V.ifnull hc (tgt := 168) dL_tell_126 (by decide) g30 (fun c31 => ?_) (fun c31 => ?_)
  · replace hw := hw.1 c31
    exact tL_tell_168 hc hr hG (fun y5 hy hw => by exact hK3 _ _ hw) hw
  · replace hw := hw.2 c31
    refine V.aloadC_n hc hG.o1.rf dL_tell_129 rfl rfl ?_
    refine V.aloadC_n hc hG.e3.rf dL_tell_130 rfl rfl ?_
    refine V.ldcJ hc kj_L_58 dL_tell_131 ?_
    refine V.bipush hc dL_tell_134 (by decide) ?_
    refine V.callSV hc (qL_say G l hG _ _ _ _ _ hG.o1 hw) mo_L_say ml_L_46 (as := [(3, 1), (3, 3), (2, 35628672708212), (0, 6)]) rfl rfl rfl rfl rfl ⟨Nat.zero_le _, Nat.zero_le _⟩ dL_tell_136 (fun h51 hw => ?_)
    refine V.aloadC_n hc hG.o1.rf dL_tell_139 rfl rfl ?_
    refine V.aloadC_n hc hG.e3.rf dL_tell_140 rfl rfl ?_
    refine V.aloadC_n hc hG.e5.rf dL_tell_141 rfl rfl ?_
    refine V.iload hc dL_tell_142 rfl ?_
    obtain ⟨g52, hw⟩ := hw
    refine V.laald hc hG.e5 (hG.c g52) g52 dL_tell_144 ?_
    refine V.iconst hc dL_tell_145 ?_
    obtain ⟨g53, hw⟩ := hw
    refine V.laald2 hc hG.sl (hG.c g53) g53 (by omega) dL_tell_146 ?_
    refine V.iconst hc dL_tell_147 ?_
    obtain ⟨g54, hw⟩ := hw
    obtain ⟨g55, hw⟩ := hw
    refine V.lald (ln := 3) hc g54 (Or.inr (Or.inr (Or.inr (Or.inr g55)))) (lnL_3 g55) (by omega) dL_tell_148 ?_
    refine V.aloadC_n hc hG.e5.rf dL_tell_149 rfl rfl ?_
    refine V.iload hc dL_tell_150 rfl ?_
    obtain ⟨g56, hw⟩ := hw
    refine V.laald hc hG.e5 (hG.c g56) g56 dL_tell_152 ?_
    refine V.iconst hc dL_tell_153 ?_
    obtain ⟨g57, hw⟩ := hw
    refine V.laald2 hc hG.sl (hG.c g57) g57 (by omega) dL_tell_154 ?_
    refine V.iconst hc dL_tell_155 ?_
    obtain ⟨g58, hw⟩ := hw
    obtain ⟨g59, hw⟩ := hw
    refine V.lald (ln := 3) hc g58 (Or.inr (Or.inr (Or.inr (Or.inr g59)))) (lnL_3 g59) (by omega) dL_tell_156 ?_
    refine V.aloadC_n hc hG.e5.rf dL_tell_157 rfl rfl ?_
    refine V.iload hc dL_tell_158 rfl ?_
    obtain ⟨g60, hw⟩ := hw
    refine V.laald hc hG.e5 (hG.c g60) g60 dL_tell_160 ?_
    refine V.iconst hc dL_tell_161 ?_
    obtain ⟨g61, hw⟩ := hw
    refine V.laald2 hc hG.sl (hG.c g61) g61 (by omega) dL_tell_162 ?_
    refine V.iconst hc dL_tell_163 ?_
    obtain ⟨g62, hw⟩ := hw
    obtain ⟨g63, hw⟩ := hw
    refine V.lald (ln := 3) hc g62 (Or.inr (Or.inr (Or.inr (Or.inr g63)))) (lnL_3 g63) (by omega) dL_tell_164 ?_
    refine V.callSV hc (qL_three G l hG _ _ _ _ _ _ hG.o1 hw) mo_L_three ml_L_54 (as := [(3, 1), (3, 3), (0, h51 (kd (20 + 3 * l5 + 0)) 0 0), (0, h51 (kd (20 + 3 * l5 + 0)) 0 1), (0, h51 (kd (20 + 3 * l5 + 0)) 0 2)]) rfl rfl rfl rfl rfl ⟨Nat.zero_le _, Nat.zero_le _⟩ dL_tell_165 (fun h64 hw => ?_)
    exact tL_tell_168 hc hr hG (fun y5 hy hw => by exact hK3 _ _ hw) hw
theorem tL_tell_81 {G : GG} {p : Program} {l : Launch} {e : Jvm.Env} {s : State} {m : MethodId} {args : Array Value} {below : List Frame} {meth : Method} {c : Code} {P : Int → HP → Prop} (hc : VC G p (rmD 13 0) s m args meth c RL cL_tell 9 13) (hr : meth.sig.returnType = some .boolean) (hG : LG G) {l5 : Int} {h : HP} {K3 : Int → HP → Prop} (hK3 : ∀ (x5 : Int) (h : HP), K3 x5 h → V G p l e (rmD 13 0) s m args below meth c (MQ below (QI G P) args s 0 0 (va_Aof G)) 9 3 [(3, 1), (3, 3), (3, 4), (3, 5), (3, 6), (0, x5), (1, 0), (1, 0), (1, 0)] [] h 0) (hw : wL_tell_81 G l5 K3 h) : V G p l e (rmD 13 0) s m args below meth c (MQ below (QI G P) args s 0 0 (va_Aof G)) 9 81 [(3, 1), (3, 3), (3, 4), (3, 5), (3, 6), (0, l5), (1, 0), (1, 0), (1, 0)] [] h 0 := by
  refine V.aloadC_n hc hG.o1.rf dL_tell_81 rfl rfl ?_
  refine V.aloadC_n hc hG.e3.rf dL_tell_82 rfl rfl ?_
  refine V.ldcJ hc kj_L_52 dL_tell_83 ?_
  refine V.bipush hc dL_tell_86 (by decide) ?_
  refine V.callSV hc (qL_say G l hG _ _ _ _ _ hG.o1 hw) mo_L_say ml_L_46 (as := [(3, 1), (3, 3), (2, 35680044544613), (0, 6)]) rfl rfl rfl rfl rfl ⟨Nat.zero_le _, Nat.zero_le _⟩ dL_tell_88 (fun h14 hw => ?_)
  refine V.aloadC_n hc hG.o1.rf dL_tell_91 rfl rfl ?_
  refine V.aloadC_n hc hG.e3.rf dL_tell_92 rfl rfl ?_
  refine V.aloadC_n hc hG.e5.rf dL_tell_93 rfl rfl ?_
  refine V.iload hc dL_tell_94 rfl ?_
  obtain ⟨g15, hw⟩ := hw
  refine V.laald hc hG.e5 (hG.c g15) g15 dL_tell_96 ?_
  refine V.iconst hc dL_tell_97 ?_
  obtain ⟨g16, hw⟩ := hw
  refine V.laald2 hc hG.sl (hG.c g16) g16 (by omega) dL_tell_98 ?_
  refine V.iconst hc dL_tell_99 ?_
  obtain ⟨g17, hw⟩ := hw
  obtain ⟨g18, hw⟩ := hw
  refine V.lald (ln := 3) hc g17 (Or.inr (Or.inr (Or.inr (Or.inr g18)))) (lnL_3 g18) (by omega) dL_tell_100 ?_
  refine V.aloadC_n hc hG.e5.rf dL_tell_101 rfl rfl ?_
  refine V.iload hc dL_tell_102 rfl ?_
  obtain ⟨g19, hw⟩ := hw
  refine V.laald hc hG.e5 (hG.c g19) g19 dL_tell_104 ?_
  refine V.iconst hc dL_tell_105 ?_
  obtain ⟨g20, hw⟩ := hw
  refine V.laald2 hc hG.sl (hG.c g20) g20 (by omega) dL_tell_106 ?_
  refine V.iconst hc dL_tell_107 ?_
  obtain ⟨g21, hw⟩ := hw
  obtain ⟨g22, hw⟩ := hw
  refine V.lald (ln := 3) hc g21 (Or.inr (Or.inr (Or.inr (Or.inr g22)))) (lnL_3 g22) (by omega) dL_tell_108 ?_
  refine V.aloadC_n hc hG.e5.rf dL_tell_109 rfl rfl ?_
  refine V.iload hc dL_tell_110 rfl ?_
  obtain ⟨g23, hw⟩ := hw
  refine V.laald hc hG.e5 (hG.c g23) g23 dL_tell_112 ?_
  refine V.iconst hc dL_tell_113 ?_
  obtain ⟨g24, hw⟩ := hw
  refine V.laald2 hc hG.sl (hG.c g24) g24 (by omega) dL_tell_114 ?_
  refine V.iconst hc dL_tell_115 ?_
  obtain ⟨g25, hw⟩ := hw
  obtain ⟨g26, hw⟩ := hw
  refine V.lald (ln := 3) hc g25 (Or.inr (Or.inr (Or.inr (Or.inr g26)))) (lnL_3 g26) (by omega) dL_tell_116 ?_
  refine V.callSV hc (qL_three G l hG _ _ _ _ _ _ hG.o1 hw) mo_L_three ml_L_54 (as := [(3, 1), (3, 3), (0, h14 (kd (20 + 3 * l5 + 1)) 0 0), (0, h14 (kd (20 + 3 * l5 + 1)) 0 1), (0, h14 (kd (20 + 3 * l5 + 1)) 0 2)]) rfl rfl rfl rfl rfl ⟨Nat.zero_le _, Nat.zero_le _⟩ dL_tell_117 (fun h27 hw => ?_)
  exact tL_tell_120 hc hr hG (fun y5 hy hw => by exact hK3 _ _ hw) hw
theorem tL_tell_44 {G : GG} {p : Program} {l : Launch} {e : Jvm.Env} {s : State} {m : MethodId} {args : Array Value} {below : List Frame} {meth : Method} {c : Code} {P : Int → HP → Prop} (hc : VC G p (rmD 13 0) s m args meth c RL cL_tell 9 13) (hr : meth.sig.returnType = some .boolean) (hG : LG G) {l5 : Int} {h : HP} {K3 : Int → HP → Prop} (hK3 : ∀ (x5 : Int) (h : HP), K3 x5 h → V G p l e (rmD 13 0) s m args below meth c (MQ below (QI G P) args s 0 0 (va_Aof G)) 9 3 [(3, 1), (3, 3), (3, 4), (3, 5), (3, 6), (0, x5), (1, 0), (1, 0), (1, 0)] [] h 0) (hw : wL_tell_44 G l5 K3 h) : V G p l e (rmD 13 0) s m args below meth c (MQ below (QI G P) args s 0 0 (va_Aof G)) 9 44 [(3, 1), (3, 3), (3, 4), (3, 5), (3, 6), (0, l5), (1, 0), (1, 0), (1, 0)] [] h 0 := by
  refine V.aloadC_n hc hG.e5.rf dL_tell_44 rfl rfl ?_
  refine V.iload hc dL_tell_45 rfl ?_
  obtain ⟨g8, hw⟩ := hw
  refine V.laald hc hG.e5 (hG.c g8) g8 dL_tell_47 ?_
  refine V.iconst hc dL_tell_48 ?_
  obtain ⟨g9, hw⟩ := hw
  refine V.laald2 hc hG.sl (hG.c g9) g9 (by omega) dL_tell_49 ?_
  refine V.iconst hc dL_tell_50 ?_
  obtain ⟨g10, hw⟩ := hw
  obtain ⟨g11, hw⟩ := hw
  refine V.lald (ln := 3) hc g10 (Or.inr (Or.inr (Or.inr (Or.inr g11)))) (lnL_3 g11) (by omega) dL_tell_51 ?_
  refine V.bipush hc dL_tell_52 (by decide) ?_
  obtain ⟨g12, hw⟩ := hw
  refine V.icmp_ne hc (tgt := 81) dL_tell_54 (by decide) g12 (by omega) (fun c13 => ?_) (fun c13 => ?_)
  · replace hw := hw.1 c13
    exact tL_tell_81 hc hr hG (fun y5 hy hw => by exact hK3 _ _ hw) hw
  · replace hw := hw.2 c13
    refine V.aloadC_n hc hG.e5.rf dL_tell_57 rfl rfl ?_
    refine V.iload hc dL_tell_58 rfl ?_
    obtain ⟨g65, hw⟩ := hw
    refine V.laald hc hG.e5 (hG.c g65) g65 dL_tell_60 ?_
    refine V.iconst hc dL_tell_61 ?_
    obtain ⟨g66, hw⟩ := hw
    refine V.laald2 hc hG.sl (hG.c g66) g66 (by omega) dL_tell_62 ?_
    refine V.iconst hc dL_tell_63 ?_
    obtain ⟨g67, hw⟩ := hw
    obtain ⟨g68, hw⟩ := hw
    refine V.lald (ln := 3) hc g67 (Or.inr (Or.inr (Or.inr (Or.inr g68)))) (lnL_3 g68) (by omega) dL_tell_64 ?_
    obtain ⟨g69, hw⟩ := hw
    refine V.if_ne hc (tgt := 81) dL_tell_65 (by decide) g69 (fun c70 => ?_) (fun c70 => ?_)
    · replace hw := hw.1 c70
      exact tL_tell_81 hc hr hG (fun y5 hy hw => by exact hK3 _ _ hw) hw
    · replace hw := hw.2 c70
      refine V.aloadC_n hc hG.e5.rf dL_tell_68 rfl rfl ?_
      refine V.iload hc dL_tell_69 rfl ?_
      obtain ⟨g71, hw⟩ := hw
      refine V.laald hc hG.e5 (hG.c g71) g71 dL_tell_71 ?_
      refine V.iconst hc dL_tell_72 ?_
      obtain ⟨g72, hw⟩ := hw
      refine V.laald2 hc hG.sl (hG.c g72) g72 (by omega) dL_tell_73 ?_
      refine V.iconst hc dL_tell_74 ?_
      obtain ⟨g73, hw⟩ := hw
      obtain ⟨g74, hw⟩ := hw
      refine V.lald (ln := 3) hc g73 (Or.inr (Or.inr (Or.inr (Or.inr g74)))) (lnL_3 g74) (by omega) dL_tell_75 ?_
      refine V.bipush hc dL_tell_76 (by decide) ?_
      obtain ⟨g75, hw⟩ := hw
      refine V.icmp_eq hc (tgt := 120) dL_tell_78 (by decide) g75 (by omega) (fun c76 => ?_) (fun c76 => ?_)
      · replace hw := hw.1 c76
        exact tL_tell_120 hc hr hG (fun y5 hy hw => by exact hK3 _ _ hw) hw
      · replace hw := hw.2 c76
        exact tL_tell_81 hc hr hG (fun y5 hy hw => by exact hK3 _ _ hw) hw
theorem tL_tell_3 {G : GG} {p : Program} {l : Launch} {e : Jvm.Env} {s : State} {m : MethodId} {args : Array Value} {below : List Frame} {meth : Method} {c : Code} {P : Int → HP → Prop} (hc : VC G p (rmD 13 0) s m args meth c RL cL_tell 9 13) (hr : meth.sig.returnType = some .boolean) (hG : LG G) {K229 : HP → Prop} (hK229 : ∀  (h : HP), K229  h → V G p l e (rmD 13 0) s m args below meth c (MQ below (QI G P) args s 0 0 (va_Aof G)) 9 229 [(3, 1), (3, 3), (1, 0), (1, 0), (3, 6), (1, 0), (1, 0), (1, 0), (1, 0)] [] h 0) : ∀ (f : Nat) (l5 : Int) (h : HP), wL_tell_3 G K229 f l5 h → V G p l e (rmD 13 0) s m args below meth c (MQ below (QI G P) args s 0 0 (va_Aof G)) 9 3 [(3, 1), (3, 3), (3, 4), (3, 5), (3, 6), (0, l5), (1, 0), (1, 0), (1, 0)] [] h 0 := by
  intro f
  induction f with
  | zero =>
    intro l5 h hw
    exact hw.elim
  | succ f ih =>
    intro l5 h hw
    refine V.iload hc dL_tell_3 rfl ?_
    refine V.aloadC_n hc hG.e4.rf dL_tell_5 rfl rfl ?_
    refine V.laln (ln := (npI G)) hc hG.e4 (by decide) rfl dL_tell_6 ?_
    obtain ⟨g1, hw⟩ := hw
    obtain ⟨g2, hw⟩ := hw
    refine V.icmp_ge hc (tgt := 229) dL_tell_7 (by decide) g1 g2 (fun c3 => ?_) (fun c3 => ?_)
    · replace hw := hw.1 c3
      refine V.drop (lo' := [(3, 1), (3, 3), (1, 0), (1, 0), (3, 6), (1, 0), (1, 0), (1, 0), (1, 0)]) ⟨Or.inr rfl, Or.inr rfl, Or.inl rfl, Or.inl rfl, Or.inr rfl, Or.inl rfl, Or.inr rfl, Or.inr rfl, Or.inr rfl, trivial⟩ ?_
      exact hK229 _ hw
    · replace hw := hw.2 c3
      refine V.aloadC_n hc hG.o1.rf dL_tell_10 rfl rfl ?_
      refine V.aloadC_n hc hG.e3.rf dL_tell_11 rfl rfl ?_
      refine V.ldcJ hc kj_L_44 dL_tell_12 ?_
      refine V.iconst hc dL_tell_15 ?_
      refine V.callSV hc (qL_say G l hG _ _ _ _ _ hG.o1 hw) mo_L_say ml_L_46 (as := [(3, 1), (3, 3), (2, 427020088179), (0, 5)]) rfl rfl rfl rfl rfl ⟨Nat.zero_le _, Nat.zero_le _⟩ dL_tell_16 (fun h4 hw => ?_)
      refine V.aloadC_n hc hG.e4.rf dL_tell_19 rfl rfl ?_
      refine V.iload hc dL_tell_20 rfl ?_
      obtain ⟨g5, hw⟩ := hw
      refine V.lald (ln := (npI G)) hc hG.e4 (by decide) rfl g5 dL_tell_22 ?_
      obtain ⟨g6, hw⟩ := hw
      refine V.if_lt hc (tgt := 44) dL_tell_23 (by decide) g6 (fun c7 => ?_) (fun c7 => ?_)
      · replace hw := hw.1 c7
        exact tL_tell_44 hc hr hG (fun y5 hy hw => by exact ih _ _ hw) hw
      · replace hw := hw.2 c7
        refine V.aloadC_n hc hG.o1.rf dL_tell_26 rfl rfl ?_
        refine V.aloadC_n hc hG.e3.rf dL_tell_27 rfl rfl ?_
        refine V.ldcJ hc kj_L_50 dL_tell_28 ?_
        refine V.iconst hc dL_tell_31 ?_
        refine V.callSV hc (qL_say G l hG _ _ _ _ _ hG.o1 hw) mo_L_say ml_L_46 (as := [(3, 1), (3, 3), (2, 543780384), (0, 4)]) rfl rfl rfl rfl rfl ⟨Nat.zero_le _, Nat.zero_le _⟩ dL_tell_32 (fun h77 hw => ?_)
        refine V.aloadC_n hc hG.o1.rf dL_tell_35 rfl rfl ?_
        refine V.aloadC_n hc hG.e3.rf dL_tell_36 rfl rfl ?_
        refine V.aloadC_n hc hG.e4.rf dL_tell_37 rfl rfl ?_
        refine V.iload hc dL_tell_38 rfl ?_
        obtain ⟨g78, hw⟩ := hw
        refine V.lald (ln := (npI G)) hc hG.e4 (by decide) rfl g78 dL_tell_40 ?_
        refine V.callSV hc (qL_number G l hG _ _ _ _ hG.o1 hw) mo_L_number ml_L_41 (as := [(3, 1), (3, 3), (0, h77 (kd 4) 0 l5)]) rfl rfl rfl rfl rfl ⟨Nat.zero_le _, Nat.zero_le _⟩ dL_tell_41 (fun h79 hw => ?_)
        exact tL_tell_44 hc hr hG (fun y5 hy hw => by exact ih _ _ hw) hw
theorem tL_tell_241 {G : GG} {p : Program} {l : Launch} {e : Jvm.Env} {s : State} {m : MethodId} {args : Array Value} {below : List Frame} {meth : Method} {c : Code} {P : Int → HP → Prop} (hc : VC G p (rmD 13 0) s m args meth c RL cL_tell 9 13) (hr : meth.sig.returnType = some .boolean) (hG : LG G) {K303 : HP → Prop} (hK303 : ∀  (h : HP), K303  h → V G p l e (rmD 13 0) s m args below meth c (MQ below (QI G P) args s 0 0 (va_Aof G)) 9 303 [(3, 1), (3, 3), (1, 0), (1, 0), (1, 0), (1, 0), (1, 0), (1, 0), (1, 0)] [] h 0) : ∀ (f : Nat) (l7 : Int) (h : HP), wL_tell_241 G K303 f l7 h → V G p l e (rmD 13 0) s m args below meth c (MQ below (QI G P) args s 0 0 (va_Aof G)) 9 241 [(3, 1), (3, 3), (1, 0), (1, 0), (1, 0), (3, 6), (0, 0), (0, l7), (1, 0)] [] h 0 := by
  intro f
  induction f with
  | zero =>
    intro l7 h hw
    exact hw.elim
  | succ f ih =>
    intro l7 h hw
    refine V.iload hc dL_tell_241 rfl ?_
    refine V.iload hc dL_tell_243 rfl ?_
    obtain ⟨g82, hw⟩ := hw
    refine V.icmp_ge hc (tgt := 303) dL_tell_245 (by decide) g82 (by omega) (fun c83 => ?_) (fun c83 => ?_)
    · replace hw := hw.1 c83
      refine V.drop (lo' := [(3, 1), (3, 3), (1, 0), (1, 0), (1, 0), (1, 0), (1, 0), (1, 0), (1, 0)]) ⟨Or.inr rfl, Or.inr rfl, Or.inr rfl, Or.inr rfl, Or.inr rfl, Or.inl rfl, Or.inl rfl, Or.inl rfl, Or.inr rfl, trivial⟩ ?_
      exact hK303 _ hw
    · replace hw := hw.2 c83
      refine V.aloadC hc hG.e6.rf dL_tell_248 rfl ?_
      refine V.iload hc dL_tell_250 rfl ?_
      exact hw.elim
theorem qL_tell (G : GG) (l : Launch) (hG : LG G) (h : HP) (P : Int → HP → Prop) (hw : wL_tell G  h P) : CnI l G yL_tell cL_tell 9 (some .boolean) 13 [(3, 1), (3, 3), (3, 4), (3, 5), (3, 6)] h P := by
  refine CnI.of (lo := [(3, 1), (3, 3), (3, 4), (3, 5), (3, 6), (1, 0), (1, 0), (1, 0), (1, 0)]) (by decide) rfl rfl rfl ?_
  intro p e s m args below meth c hc hr
  have hc : VC G p (rmD 13 0) s m args meth c RL cL_tell 9 13 := hc
  refine V.iconst hc dL_tell_0 ?_
  refine V.istore hc dL_tell_1 rfl (lo' := [(3, 1), (3, 3), (3, 4), (3, 5), (3, 6), (0, 0), (1, 0), (1, 0), (1, 0)]) rfl ?_
  obtain ⟨f80, hw⟩ := hw
  refine tL_tell_3 hc hr hG ?_ f80 _ _ hw
  · intro h81 hw
    refine V.aloadC hc hG.e6.rf dL_tell_229 rfl ?_
    refine V.astoreC hc hG.e6.rf dL_tell_231 rfl (lo' := [(3, 1), (3, 3), (1, 0), (1, 0), (3, 6), (3, 6), (1, 0), (1, 0), (1, 0)]) rfl ?_
    refine V.aloadC hc hG.e6.rf dL_tell_233 rfl ?_
    refine V.laln6 hc hG.e6 dL_tell_235 ?_
    refine V.istore hc dL_tell_236 rfl (lo' := [(3, 1), (3, 3), (1, 0), (1, 0), (3, 6), (3, 6), (0, 0), (1, 0), (1, 0)]) rfl ?_
    refine V.iconst hc dL_tell_238 ?_
    refine V.istore hc dL_tell_239 rfl (lo' := [(3, 1), (3, 3), (1, 0), (1, 0), (3, 6), (3, 6), (0, 0), (0, 0), (1, 0)]) rfl ?_
    obtain ⟨f84, hw⟩ := hw
    refine V.drop (lo' := [(3, 1), (3, 3), (1, 0), (1, 0), (1, 0), (3, 6), (0, 0), (0, 0), (1, 0)]) ⟨Or.inr rfl, Or.inr rfl, Or.inr rfl, Or.inr rfl, Or.inl rfl, Or.inr rfl, Or.inr rfl, Or.inr rfl, Or.inr rfl, trivial⟩ ?_
    refine tL_tell_241 hc hr hG ?_ f84 _ _ hw
    · intro h85 hw
      refine V.aloadC_n hc hG.o1.rf dL_tell_303 rfl rfl ?_
      refine V.aloadC_n hc hG.o1.rf dL_tell_304 rfl rfl ?_
      refine V.aloadC_n hc hG.e3.rf dL_tell_305 rfl rfl ?_
      refine V.callSI hc (qL_end G l hG _ _ _ hG.o1 hw) mo_L_end ml_L_64 (as := [(3, 1), (3, 3)]) rfl rfl rfl rfl rfl ⟨Nat.zero_le _, Nat.zero_le _⟩ dL_tell_306 (fun x87 h86 hw => ?_)
      refine V.callOI hc hG.o1 (qX11_link _ l _ _ _ _ _ hXF hw) mo_X11_link ml_L_68 rfl (as := [(0, x87)]) rfl rfl rfl rfl rfl rfl ⟨Nat.zero_le _, Nat.zero_le _⟩ dL_tell_309 (fun x89 g90 h88 e hw => ?_)
      replace hw := hw h88 e
      clear e
      obtain ⟨q93, hw⟩ := hw
      have kJ95 : ∀ t92 : Int, ((¬ x89 = 0 → t92 = 0) ∧ (x89 = 0 → t92 = 1)) → V G p l e (rmD 13 0) s m args below meth c (MQ below (QI G P) args s 0 0 (va_Aof G)) 9 320 [(1, 0), (1, 0), (1, 0), (1, 0), (1, 0), (1, 0), (1, 0), (1, 0), (1, 0)] [(0, t92)] h88 0 := by
        intro t92 he
        replace hw := hw t92 he
        clear he
        obtain ⟨g94, hw⟩ := hw
        exact V.zret hc hr dL_tell_320 g94 hw
      have g91 := q93
      refine V.if_ne hc (tgt := 319) dL_tell_312 (by decide) g91 (fun c96 => ?_) (fun c96 => ?_)
      · refine V.iconst hc dL_tell_319 ?_
        refine V.drop (lo' := [(1, 0), (1, 0), (1, 0), (1, 0), (1, 0), (1, 0), (1, 0), (1, 0), (1, 0)]) ⟨Or.inl rfl, Or.inl rfl, Or.inr rfl, Or.inr rfl, Or.inr rfl, Or.inr rfl, Or.inr rfl, Or.inr rfl, Or.inr rfl, trivial⟩ ?_
        exact kJ95 _ ⟨fun _ => rfl, (fun q => absurd q c96)⟩
      · refine V.iconst hc dL_tell_315 ?_
        refine V.goto hc (tgt := 320) dL_tell_316 (by decide) ?_
        refine V.drop (lo' := [(1, 0), (1, 0), (1, 0), (1, 0), (1, 0), (1, 0), (1, 0), (1, 0), (1, 0)]) ⟨Or.inl rfl, Or.inl rfl, Or.inr rfl, Or.inr rfl, Or.inr rfl, Or.inr rfl, Or.inr rfl, Or.inr rfl, Or.inr rfl, trivial⟩ ?_
        exact kJ95 _ ⟨(fun q => absurd c96 q), fun _ => rfl⟩
