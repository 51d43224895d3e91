theorem tL_law_338 {G : GG} {p : Program} {l : Launch} {e : Jvm.Env} {s : State} {m : MethodId} {args : Array Value} {below : List Frame} {meth : Method} {c : Code} {P : Int → HP → Prop} {Q : State → Prop} {n : Nat} (hc : VC G p room_1 s m args meth c RL cL_law 15 15) (hr : True) (hG : LG2 G) (hO : OB G 1) (hn : n ≤ room_1.cells ∧ 6 * n ≤ room_1.slots) (hfin : ∀ (pc : Nat) (lo : List TV) (x : Int) (h : HP), decode cL_law pc = .ok (.ireturn, 1) → P x h → V G p l e room_1 s m args below meth c Q 15 pc lo [(0, x)] h n) {l5 : Int} {l7 : Int} {l9 : Int} {K380 : HP → Prop} {K360 : HP → Prop} (hK380 : ∀  (h : HP), K380  h → V G p l e room_1 s m args below meth c Q 15 380 [(3, 0), (3, 1), (1, 0), (3, 4), (3, 5), (0, l5), (3, 7), (0, l7), (3, 8), (0, l9), (1, 0), (1, 0), (1, 0), (1, 0), (1, 0)] [] h n) (hK360 : ∀  (h : HP), K360  h → V G p l e room_1 s m args below meth c Q 15 360 [(1, 0), (1, 0), (1, 0), (1, 0), (1, 0), (1, 0), (1, 0), (1, 0), (1, 0), (1, 0), (1, 0), (1, 0), (1, 0), (1, 0), (1, 0)] [] h n) : ∀ (f : Nat) (l12 : Int) (h : HP), wL_law_338 G l5 l7 l9 K380 K360 f l12 h → V G p l e room_1 s m args below meth c Q 15 338 [(3, 0), (3, 1), (1, 0), (3, 4), (3, 5), (0, l5), (3, 7), (0, l7), (3, 8), (0, l9), (1, 0), (1, 0), (0, l12), (1, 0), (1, 0)] [] h n := by
  intro f
  induction f with
  | zero =>
    intro l12 h hw
    exact hw.elim
  | succ f ih =>
    intro l12 h hw
    refine V.iload hc dL_law_338 rfl ?_
    refine V.aloadC_n hc hG.e4.rf dL_law_340 rfl rfl ?_
    refine V.laln (ln := (npI G)) hc hG.e4 (by decide) rfl dL_law_341 ?_
    obtain ⟨g39, hw⟩ := hw
    obtain ⟨g40, hw⟩ := hw
    refine V.icmp_ge hc (tgt := 380) dL_law_342 (by decide) g39 g40 (fun c41 => ?_) (fun c41 => ?_)
    · replace hw := hw.1 c41
      refine V.drop (lo' := [(3, 0), (3, 1), (1, 0), (3, 4), (3, 5), (0, l5), (3, 7), (0, l7), (3, 8), (0, l9), (1, 0), (1, 0), (1, 0), (1, 0), (1, 0)]) ⟨Or.inr rfl, Or.inr rfl, Or.inr rfl, Or.inr rfl, Or.inr rfl, Or.inr rfl, Or.inr rfl, Or.inr rfl, Or.inr rfl, Or.inr rfl, Or.inr rfl, Or.inr rfl, Or.inl rfl, Or.inr rfl, Or.inr rfl, trivial⟩ ?_
      exact hK380 _ hw
    · replace hw := hw.2 c41
      refine V.aloadC_n hc hO.rf dL_law_345 rfl rfl ?_
      refine V.iload hc dL_law_346 rfl ?_
      refine V.iconst hc dL_law_348 ?_
      refine V.callOI hc hO (qX11_of _ l _ _ _ _ _ _ hXF hw) mo_X11_of ml_L_78 rfl (as := [(0, l12), (0, 5)]) rfl rfl rfl rfl rfl rfl hn dL_law_349 (fun x43 g44 h42 e hw => ?_)
      replace hw := hw h42 e
      clear e
      refine V.aloadC hc hG.e7.rf dL_law_352 rfl ?_
      refine V.iload hc dL_law_354 rfl ?_
      obtain ⟨g45, hw⟩ := hw
      refine V.lald (ln := (npI G)) hc hG.e7 (by decide) rfl g45 dL_law_356 ?_
      obtain ⟨g46, hw⟩ := hw
      obtain ⟨g47, hw⟩ := hw
      refine V.icmp_ge hc (tgt := 362) dL_law_357 (by decide) g46 g47 (fun c48 => ?_) (fun c48 => ?_)
      · replace hw := hw.1 c48
        refine V.aloadC hc hG.e7.rf dL_law_362 rfl ?_
        refine V.iload hc dL_law_364 rfl ?_
        refine V.aloadC_n hc hO.rf dL_law_366 rfl rfl ?_
        refine V.iload hc dL_law_367 rfl ?_
        refine V.iconst hc dL_law_369 ?_
        refine V.callOI hc hO (qX11_of _ l _ _ _ _ _ _ hXF hw) mo_X11_of ml_L_78 rfl (as := [(0, l12), (0, 5)]) rfl rfl rfl rfl rfl rfl hn dL_law_370 (fun x50 g51 h49 e hw => ?_)
        replace hw := hw h49 e
        clear e
        obtain ⟨g53, hw⟩ := hw
        refine V.last (ln := (npI G)) hc hG.e7 (by decide) rfl g53 dL_law_373 (fun h52 e => ?_)
        replace hw := hw h52 e
        clear e
        refine V.iinc hc dL_law_374 rfl rfl (lo' := [(3, 0), (3, 1), (1, 0), (3, 4), (3, 5), (0, l5), (3, 7), (0, l7), (3, 8), (0, l9), (1, 0), (1, 0), (0, l12 + 1), (1, 0), (1, 0)]) rfl ?_
        refine V.goto hc (tgt := 338) dL_law_377 (by decide) ?_
        exact ih _ _ hw
      · replace hw := hw.2 c48
        refine V.drop (lo' := [(1, 0), (1, 0), (1, 0), (1, 0), (1, 0), (1, 0), (1, 0), (1, 0), (1, 0), (1, 0), (1, 0), (1, 0), (1, 0), (1, 0), (1, 0)]) ⟨Or.inl rfl, Or.inl rfl, Or.inr rfl, Or.inl rfl, Or.inl rfl, Or.inl rfl, Or.inl rfl, Or.inl rfl, Or.inl rfl, Or.inl rfl, Or.inr rfl, Or.inr rfl, Or.inl rfl, Or.inr rfl, Or.inr rfl, trivial⟩ ?_
        exact hK360 _ hw
theorem tL_law_424 {G : GG} {p : Program} {l : Launch} {e : Jvm.Env} {s : State} {m : MethodId} {args : Array Value} {below : List Frame} {meth : Method} {c : Code} {P : Int → HP → Prop} {Q : State → Prop} {n : Nat} (hc : VC G p room_1 s m args meth c RL cL_law 15 15) (hr : True) (hG : LG2 G) (hO : OB G 1) (hn : n ≤ room_1.cells ∧ 6 * n ≤ room_1.slots) (hfin : ∀ (pc : Nat) (lo : List TV) (x : Int) (h : HP), decode cL_law pc = .ok (.ireturn, 1) → P x h → V G p l e room_1 s m args below meth c Q 15 pc lo [(0, x)] h n) {l5 : Int} {l7 : Int} {l9 : Int} {h : HP} {K81 : Int → Int → Int → HP → Prop} (hK81 : ∀ (x5 : Int) (x7 : Int) (x9 : Int) (h : HP), K81 x5 x7 x9 h → V G p l e room_1 s m args below meth c Q 15 81 [(3, 0), (3, 1), (1, 0), (3, 4), (3, 5), (0, x5), (3, 7), (0, x7), (3, 8), (0, x9), (1, 0), (1, 0), (1, 0), (1, 0), (1, 0)] [] h n) (hw : wL_law_424 G l5 l7 l9 K81 h) : V G p l e room_1 s m args below meth c Q 15 424 [(3, 0), (3, 1), (1, 0), (3, 4), (3, 5), (0, l5), (3, 7), (0, l7), (3, 8), (0, l9), (1, 0), (1, 0), (1, 0), (1, 0), (1, 0)] [] h n := by
  refine V.iinc hc dL_law_424 rfl rfl (lo' := [(3, 0), (3, 1), (1, 0), (3, 4), (3, 5), (0, l5), (3, 7), (0, l7), (3, 8), (0, l9 + 1), (1, 0), (1, 0), (1, 0), (1, 0), (1, 0)]) rfl ?_
  refine V.goto hc (tgt := 81) dL_law_427 (by decide) ?_
  exact hK81 _ _ _ _ hw
theorem tL_law_322 {G : GG} {p : Program} {l : Launch} {e : Jvm.Env} {s : State} {m : MethodId} {args : Array Value} {below : List Frame} {meth : Method} {c : Code} {P : Int → HP → Prop} {Q : State → Prop} {n : Nat} (hc : VC G p room_1 s m args meth c RL cL_law 15 15) (hr : True) (hG : LG2 G) (hO : OB G 1) (hn : n ≤ room_1.cells ∧ 6 * n ≤ room_1.slots) (hfin : ∀ (pc : Nat) (lo : List TV) (x : Int) (h : HP), decode cL_law pc = .ok (.ireturn, 1) → P x h → V G p l e room_1 s m args below meth c Q 15 pc lo [(0, x)] h n) {l5 : Int} {l7 : Int} {l9 : Int} {h : HP} {K81 : Int → Int → Int → HP → Prop} {K360 : HP → Prop} {K422 : HP → Prop} (hK81 : ∀ (x5 : Int) (x7 : Int) (x9 : Int) (h : HP), K81 x5 x7 x9 h → V G p l e room_1 s m args below meth c Q 15 81 [(3, 0), (3, 1), (1, 0), (3, 4), (3, 5), (0, x5), (3, 7), (0, x7), (3, 8), (0, x9), (1, 0), (1, 0), (1, 0), (1, 0), (1, 0)] [] h n) (hK360 : ∀  (h : HP), K360  h → V G p l e room_1 s m args below meth c Q 15 360 [(1, 0), (1, 0), (1, 0), (1, 0), (1, 0), (1, 0), (1, 0), (1, 0), (1, 0), (1, 0), (1, 0), (1, 0), (1, 0), (1, 0), (1, 0)] [] h n) (hK422 : ∀  (h : HP), K422  h → V G p l e room_1 s m args below meth c Q 15 422 [(1, 0), (1, 0), (1, 0), (1, 0), (1, 0), (1, 0), (1, 0), (1, 0), (1, 0), (1, 0), (1, 0), (1, 0), (1, 0), (1, 0), (1, 0)] [] h n) (hw : wL_law_322 G l5 l7 l9 K81 K360 K422 h) : V G p l e room_1 s m args below meth c Q 15 322 [(3, 0), (3, 1), (1, 0), (3, 4), (3, 5), (0, l5), (3, 7), (0, l7), (3, 8), (0, l9), (1, 0), (1, 0), (1, 0), (1, 0), (1, 0)] [] h n := by
  refine V.aloadC hc hG.e8.rf dL_law_322 rfl ?_
  refine V.iload hc dL_law_324 rfl ?_
  refine V.aloadC hc hG.e8.rf dL_law_326 rfl ?_
  refine V.iload hc dL_law_328 rfl ?_
  obtain ⟨g36, hw⟩ := hw
  refine V.lald (ln := 17) hc hG.e8 (by decide) rfl g36 dL_law_330 ?_
  obtain ⟨g38, hw⟩ := hw
  refine V.last (ln := 17) hc hG.e8 (by decide) rfl g38 dL_law_331 (fun h37 e => ?_)
  replace hw := hw h37 e
  clear e
  refine V.iinc hc dL_law_332 rfl rfl (lo' := [(3, 0), (3, 1), (1, 0), (3, 4), (3, 5), (0, l5), (3, 7), (0, l7 + 1), (3, 8), (0, l9), (1, 0), (1, 0), (1, 0), (1, 0), (1, 0)]) rfl ?_
  refine V.iconst hc dL_law_335 ?_
  refine V.istore hc dL_law_336 rfl (lo' := [(3, 0), (3, 1), (1, 0), (3, 4), (3, 5), (0, l5), (3, 7), (0, l7 + 1), (3, 8), (0, l9), (1, 0), (1, 0), (0, 0), (1, 0), (1, 0)]) rfl ?_
  obtain ⟨f54, hw⟩ := hw
  refine tL_law_338 hc hr hG hO hn hfin ?_ ?_ f54 _ _ hw
  · intro h55 hw
    refine V.aloadC_n hc hO.rf dL_law_380 rfl rfl ?_
    refine V.aloadC_n hc hG.e4.rf dL_law_381 rfl rfl ?_
    refine V.callSI hc (qL_isRight G l hG.lg  _ _ hw) mo_L_isRight ml_L_116 (as := [(3, 1), (3, 4)]) rfl rfl rfl rfl rfl hn dL_law_382 (fun x57 h56 hw => ?_)
    obtain ⟨g58, hw⟩ := hw
    refine V.if_eq hc (tgt := 422) dL_law_385 (by decide) g58 (fun c59 => ?_) (fun c59 => ?_)
    · replace hw := hw.1 c59
      refine V.drop (lo' := [(1, 0), (1, 0), (1, 0), (1, 0), (1, 0), (1, 0), (1, 0), (1, 0), (1, 0), (1, 0), (1, 0), (1, 0), (1, 0), (1, 0), (1, 0)]) ⟨Or.inl rfl, Or.inl rfl, Or.inr rfl, Or.inl rfl, Or.inl rfl, Or.inl rfl, Or.inl rfl, Or.inl rfl, Or.inl rfl, Or.inl rfl, Or.inr rfl, Or.inr rfl, Or.inr rfl, Or.inr rfl, Or.inr rfl, trivial⟩ ?_
      exact hK422 _ hw
    · replace hw := hw.2 c59
      refine V.aloadC_n hc hO.rf dL_law_388 rfl rfl ?_
      refine V.aloadC_n hc hG.e4.rf dL_law_389 rfl rfl ?_
      refine V.aloadC hc hG.e5.rf dL_law_390 rfl ?_
      refine V.callSI hc (qL_isChosen G l hG.lg  _ _ hw) mo_L_isChosen ml_L_120 (as := [(3, 1), (3, 4), (3, 5)]) rfl rfl rfl rfl rfl hn dL_law_392 (fun x61 h60 hw => ?_)
      obtain ⟨g62, hw⟩ := hw
      refine V.if_eq hc (tgt := 422) dL_law_395 (by decide) g62 (fun c63 => ?_) (fun c63 => ?_)
      · replace hw := hw.1 c63
        refine V.drop (lo' := [(1, 0), (1, 0), (1, 0), (1, 0), (1, 0), (1, 0), (1, 0), (1, 0), (1, 0), (1, 0), (1, 0), (1, 0), (1, 0), (1, 0), (1, 0)]) ⟨Or.inl rfl, Or.inl rfl, Or.inr rfl, Or.inl rfl, Or.inl rfl, Or.inl rfl, Or.inl rfl, Or.inl rfl, Or.inl rfl, Or.inl rfl, Or.inr rfl, Or.inr rfl, Or.inr rfl, Or.inr rfl, Or.inr rfl, trivial⟩ ?_
        exact hK422 _ hw
      · replace hw := hw.2 c63
        refine V.iload hc dL_law_398 rfl ?_
        refine V.aloadC_n hc hO.rf dL_law_400 rfl rfl ?_
        refine V.iconst hc dL_law_401 ?_
        refine V.callOI hc hO (qX11_count _ l _ _ _ _ _ hXF hw) mo_X11_count ml_L_75 rfl (as := [(0, 5)]) rfl rfl rfl rfl rfl rfl hn dL_law_402 (fun x65 g66 h64 e hw => ?_)
        replace hw := hw h64 e
        clear e
        refine V.aloadC_n hc hO.rf dL_law_405 rfl rfl ?_
        refine V.bipush hc dL_law_406 (by decide) ?_
        refine V.callOI hc hO (qX11_count _ l _ _ _ _ _ hXF hw) mo_X11_count ml_L_75 rfl (as := [(0, 6)]) rfl rfl rfl rfl rfl rfl hn dL_law_408 (fun x68 g69 h67 e hw => ?_)
        replace hw := hw h67 e
        clear e
        refine V.iadd hc dL_law_411 ?_
        refine V.aloadC_n hc hO.rf dL_law_412 rfl rfl ?_
        refine V.bipush hc dL_law_413 (by decide) ?_
        refine V.callOI hc hO (qX11_count _ l _ _ _ _ _ hXF hw) mo_X11_count ml_L_75 rfl (as := [(0, 8)]) rfl rfl rfl rfl rfl rfl hn dL_law_415 (fun x71 g72 h70 e hw => ?_)
        replace hw := hw h70 e
        clear e
        refine V.iadd hc dL_law_418 ?_
        obtain ⟨g73, hw⟩ := hw
        obtain ⟨g74, hw⟩ := hw
        refine V.icmp_eq hc (tgt := 424) dL_law_419 (by decide) g73 g74 (fun c75 => ?_) (fun c75 => ?_)
        · replace hw := hw.1 c75
          exact tL_law_424 hc hr hG hO hn hfin (fun y5 y7 y9 hy hw => by exact hK81 _ _ _ _ hw) hw
        · replace hw := hw.2 c75
          refine V.drop (lo' := [(1, 0), (1, 0), (1, 0), (1, 0), (1, 0), (1, 0), (1, 0), (1, 0), (1, 0), (1, 0), (1, 0), (1, 0), (1, 0), (1, 0), (1, 0)]) ⟨Or.inl rfl, Or.inl rfl, Or.inr rfl, Or.inl rfl, Or.inl rfl, Or.inl rfl, Or.inl rfl, Or.inl rfl, Or.inl rfl, Or.inl rfl, Or.inr rfl, Or.inr rfl, Or.inr rfl, Or.inr rfl, Or.inr rfl, trivial⟩ ?_
          exact hK422 _ hw
  · intro h76 hw
    exact hK360 _ hw
theorem tL_law_81 {G : GG} {p : Program} {l : Launch} {e : Jvm.Env} {s : State} {m : MethodId} {args : Array Value} {below : List Frame} {meth : Method} {c : Code} {P : Int → HP → Prop} {Q : State → Prop} {n : Nat} (hc : VC G p room_1 s m args meth c RL cL_law 15 15) (hr : True) (hG : LG2 G) (hO : OB G 1) (hn : n ≤ room_1.cells ∧ 6 * n ≤ room_1.slots) (hfin : ∀ (pc : Nat) (lo : List TV) (x : Int) (h : HP), decode cL_law pc = .ok (.ireturn, 1) → P x h → V G p l e room_1 s m args below meth c Q 15 pc lo [(0, x)] h n) {K430 : Int → HP → Prop} {K214 : HP → Prop} {K277 : HP → Prop} {K320 : HP → Prop} {K360 : HP → Prop} {K422 : HP → Prop} (hK430 : ∀ (x7 : Int) (h : HP), K430 x7 h → V G p l e room_1 s m args below meth c Q 15 430 [(3, 0), (3, 1), (1, 0), (1, 0), (1, 0), (1, 0), (1, 0), (0, x7), (3, 8), (1, 0), (1, 0), (1, 0), (1, 0), (1, 0), (1, 0)] [] h n) (hK214 : ∀  (h : HP), K214  h → V G p l e room_1 s m args below meth c Q 15 214 [(1, 0), (1, 0), (1, 0), (1, 0), (1, 0), (1, 0), (1, 0), (1, 0), (1, 0), (1, 0), (1, 0), (1, 0), (1, 0), (1, 0), (1, 0)] [] h n) (hK277 : ∀  (h : HP), K277  h → V G p l e room_1 s m args below meth c Q 15 277 [(1, 0), (1, 0), (1, 0), (1, 0), (1, 0), (1, 0), (1, 0), (1, 0), (1, 0), (1, 0), (1, 0), (1, 0), (1, 0), (1, 0), (1, 0)] [] h n) (hK320 : ∀  (h : HP), K320  h → V G p l e room_1 s m args below meth c Q 15 320 [(1, 0), (1, 0), (1, 0), (1, 0), (1, 0), (1, 0), (1, 0), (1, 0), (1, 0), (1, 0), (1, 0), (1, 0), (1, 0), (1, 0), (1, 0)] [] h n) (hK360 : ∀  (h : HP), K360  h → V G p l e room_1 s m args below meth c Q 15 360 [(1, 0), (1, 0), (1, 0), (1, 0), (1, 0), (1, 0), (1, 0), (1, 0), (1, 0), (1, 0), (1, 0), (1, 0), (1, 0), (1, 0), (1, 0)] [] h n) (hK422 : ∀  (h : HP), K422  h → V G p l e room_1 s m args below meth c Q 15 422 [(1, 0), (1, 0), (1, 0), (1, 0), (1, 0), (1, 0), (1, 0), (1, 0), (1, 0), (1, 0), (1, 0), (1, 0), (1, 0), (1, 0), (1, 0)] [] h n) : ∀ (f : Nat) (l5 : Int) (l7 : Int) (l9 : Int) (h : HP), wL_law_81 G K430 K214 K277 K320 K360 K422 f l5 l7 l9 h → V G p l e room_1 s m args below meth c Q 15 81 [(3, 0), (3, 1), (1, 0), (3, 4), (3, 5), (0, l5), (3, 7), (0, l7), (3, 8), (0, l9), (1, 0), (1, 0), (1, 0), (1, 0), (1, 0)] [] h n := by
  intro f
  induction f with
  | zero =>
    intro l5 l7 l9 h hw
    exact hw.elim
  | succ f ih =>
    intro l5 l7 l9 h hw
    refine V.iload hc dL_law_81 rfl ?_
    refine V.bipush hc dL_law_83 (by decide) ?_
    obtain ⟨g1, hw⟩ := hw
    refine V.icmp_ge hc (tgt := 430) dL_law_85 (by decide) g1 (by omega) (fun c2 => ?_) (fun c2 => ?_)
    · replace hw := hw.1 c2
      refine V.drop (lo' := [(3, 0), (3, 1), (1, 0), (1, 0), (1, 0), (1, 0), (1, 0), (0, l7), (3, 8), (1, 0), (1, 0), (1, 0), (1, 0), (1, 0), (1, 0)]) ⟨Or.inr rfl, Or.inr rfl, Or.inr rfl, Or.inl rfl, Or.inl rfl, Or.inl rfl, Or.inl rfl, Or.inr rfl, Or.inr rfl, Or.inl rfl, Or.inr rfl, Or.inr rfl, Or.inr rfl, Or.inr rfl, Or.inr rfl, trivial⟩ ?_
      exact hK430 _ _ hw
    · replace hw := hw.2 c2
      refine V.aloadC_n hc ⟨_, rfl⟩ dL_law_88 rfl rfl ?_
      refine V.bipush hc dL_law_89 (by decide) ?_
      refine V.iload hc dL_law_91 rfl ?_
      refine V.iadd hc dL_law_93 ?_
      refine V.callSI hc (qL_cell G l _ _ _ hw) mo_L_cell ml_L_20 (as := [(3, 0), (0, 13 + l9)]) rfl rfl rfl rfl rfl hn dL_law_94 (fun x4 h3 hw => ?_)
      refine V.istore hc dL_law_97 rfl (lo' := [(3, 0), (3, 1), (1, 0), (3, 4), (3, 5), (0, l5), (3, 7), (0, l7), (3, 8), (0, l9), (0, x4), (1, 0), (1, 0), (1, 0), (1, 0)]) rfl ?_
      refine V.iload hc dL_law_99 rfl ?_
      refine V.iconst hc dL_law_101 ?_
      refine V.ishr hc dL_law_102 ?_
      refine V.aloadC_n hc hG.e4.rf dL_law_103 rfl rfl ?_
      refine V.laln (ln := (npI G)) hc hG.e4 (by decide) rfl dL_law_104 ?_
      refine V.callSI hc (qL_most G l _ _ _ _ hw) mo_L_most ml_L_24 (as := [(0, bShr x4 4), (0, (npI G))]) rfl rfl rfl rfl rfl hn dL_law_105 (fun x6 h5 hw => ?_)
      refine V.istore hc dL_law_108 rfl (lo' := [(3, 0), (3, 1), (1, 0), (3, 4), (3, 5), (0, l5), (3, 7), (0, l7), (3, 8), (0, l9), (0, x4), (0, x6), (1, 0), (1, 0), (1, 0)]) rfl ?_
      refine V.aloadC hc hG.e8.rf dL_law_110 rfl ?_
      refine V.iload hc dL_law_112 rfl ?_
      refine V.aloadC_n hc hO.rf dL_law_114 rfl rfl ?_
      refine V.iconst hc dL_law_115 ?_
      refine V.callOI hc hO (qX11_count _ l _ _ _ _ _ hXF hw) mo_X11_count ml_L_75 rfl (as := [(0, 2)]) rfl rfl rfl rfl rfl rfl hn dL_law_116 (fun x8 g9 h7 e hw => ?_)
      replace hw := hw h7 e
      clear e
      refine V.bipush hc dL_law_119 (by decide) ?_
      refine V.imul hc dL_law_121 ?_
      refine V.aloadC_n hc hO.rf dL_law_122 rfl rfl ?_
      refine V.iconst hc dL_law_123 ?_
      refine V.callOI hc hO (qX11_count _ l _ _ _ _ _ hXF hw) mo_X11_count ml_L_75 rfl (as := [(0, 5)]) rfl rfl rfl rfl rfl rfl hn dL_law_124 (fun x11 g12 h10 e hw => ?_)
      replace hw := hw h10 e
      clear e
      refine V.ldc hc (x := 1000003) kl_L_109 dL_law_127 ?_
      refine V.imul hc dL_law_129 ?_
      refine V.iadd hc dL_law_130 ?_
      refine V.aloadC_n hc hO.rf dL_law_131 rfl rfl ?_
      refine V.bipush hc dL_law_132 (by decide) ?_
      refine V.callOI hc hO (qX11_count _ l _ _ _ _ _ hXF hw) mo_X11_count ml_L_75 rfl (as := [(0, 10)]) rfl rfl rfl rfl rfl rfl hn dL_law_134 (fun x14 g15 h13 e hw => ?_)
      replace hw := hw h13 e
      clear e
      refine V.bipush hc dL_law_137 (by decide) ?_
      refine V.imul hc dL_law_139 ?_
      refine V.iadd hc dL_law_140 ?_
      refine V.aloadC_n hc hO.rf dL_law_141 rfl rfl ?_
      refine V.bipush hc dL_law_142 (by decide) ?_
      refine V.callOI hc hO (qX11_count _ l _ _ _ _ _ hXF hw) mo_X11_count ml_L_75 rfl (as := [(0, 9)]) rfl rfl rfl rfl rfl rfl hn dL_law_144 (fun x17 g18 h16 e hw => ?_)
      replace hw := hw h16 e
      clear e
      refine V.iadd hc dL_law_147 ?_
      obtain ⟨g20, hw⟩ := hw
      refine V.last (ln := 17) hc hG.e8 (by decide) rfl g20 dL_law_148 (fun h19 e => ?_)
      replace hw := hw h19 e
      clear e
      refine V.iload hc dL_law_149 rfl ?_
      refine V.iconst hc dL_law_151 ?_
      refine V.callSI hc (qL_most G l _ _ _ _ hw) mo_L_most ml_L_24 (as := [(0, x4), (0, 4)]) rfl rfl rfl rfl rfl hn dL_law_152 (fun x22 h21 hw => ?_)
      refine V.iconst hc dL_law_155 ?_
      obtain ⟨g23, hw⟩ := hw
      refine V.icmp_ge hc (tgt := 285) dL_law_156 (by decide) g23 (by omega) (fun c24 => ?_) (fun c24 => ?_)
      · replace hw := hw.1 c24
        refine V.aloadC_n hc hO.rf dL_law_285 rfl rfl ?_
        refine V.iconst hc dL_law_286 ?_
        refine V.callOI hc hO (qX11_count _ l _ _ _ _ _ hXF hw) mo_X11_count ml_L_75 rfl (as := [(0, 2)]) rfl rfl rfl rfl rfl rfl hn dL_law_287 (fun x26 g27 h25 e hw => ?_)
        replace hw := hw h25 e
        clear e
        refine V.istore hc dL_law_290 rfl (lo' := [(3, 0), (3, 1), (1, 0), (3, 4), (3, 5), (0, l5), (3, 7), (0, l7), (3, 8), (0, l9), (0, x4), (0, x6), (0, x26), (1, 0), (1, 0)]) rfl ?_
        refine V.iconst hc dL_law_292 ?_
        refine V.iload hc dL_law_293 rfl ?_
        refine V.bipush hc dL_law_295 (by decide) ?_
        refine V.ishr hc dL_law_297 ?_
        refine V.bipush hc dL_law_298 (by decide) ?_
        refine V.callSI hc (qL_most G l _ _ _ _ hw) mo_L_most ml_L_24 (as := [(0, bShr x4 8), (0, 60)]) rfl rfl rfl rfl rfl hn dL_law_300 (fun x29 h28 hw => ?_)
        refine V.iadd hc dL_law_303 ?_
        refine V.istore hc dL_law_304 rfl (lo' := [(3, 0), (3, 1), (1, 0), (3, 4), (3, 5), (0, l5), (3, 7), (0, l7), (3, 8), (0, l9), (0, x4), (0, x6), (0, x26), (0, 1 + x29), (1, 0)]) rfl ?_
        refine V.aloadC_n hc hO.rf dL_law_306 rfl rfl ?_
        refine V.iload hc dL_law_307 rfl ?_
        refine V.callOI hc hO (qX11_units _ l _ _ _ _ hw) mo_X11_units ml_L_113 rfl (as := [(0, 1 + x29)]) rfl rfl rfl rfl rfl rfl hn dL_law_309 (fun x31 g32 h30 e hw => ?_)
        replace hw := hw h30 e
        clear e
        refine V.iload hc dL_law_312 rfl ?_
        refine V.iload hc dL_law_314 rfl ?_
        refine V.iadd hc dL_law_316 ?_
        obtain ⟨g33, hw⟩ := hw
        obtain ⟨g34, hw⟩ := hw
        refine V.icmp_eq hc (tgt := 322) dL_law_317 (by decide) g33 g34 (fun c35 => ?_) (fun c35 => ?_)
        · replace hw := hw.1 c35
          refine V.drop (lo' := [(3, 0), (3, 1), (1, 0), (3, 4), (3, 5), (0, l5), (3, 7), (0, l7), (3, 8), (0, l9), (1, 0), (1, 0), (1, 0), (1, 0), (1, 0)]) ⟨Or.inr rfl, Or.inr rfl, Or.inr rfl, Or.inr rfl, Or.inr rfl, Or.inr rfl, Or.inr rfl, Or.inr rfl, Or.inr rfl, Or.inr rfl, Or.inl rfl, Or.inl rfl, Or.inl rfl, Or.inl rfl, Or.inr rfl, trivial⟩ ?_
          exact tL_law_322 hc hr hG hO hn hfin (fun y5 y7 y9 hy hw => by exact ih _ _ _ _ hw) (fun hy hw => by exact hK360 _ hw) (fun hy hw => by exact hK422 _ hw) hw
        · replace hw := hw.2 c35
          refine V.drop (lo' := [(1, 0), (1, 0), (1, 0), (1, 0), (1, 0), (1, 0), (1, 0), (1, 0), (1, 0), (1, 0), (1, 0), (1, 0), (1, 0), (1, 0), (1, 0)]) ⟨Or.inl rfl, Or.inl rfl, Or.inr rfl, Or.inl rfl, Or.inl rfl, Or.inl rfl, Or.inl rfl, Or.inl rfl, Or.inl rfl, Or.inl rfl, Or.inl rfl, Or.inl rfl, Or.inl rfl, Or.inl rfl, Or.inr rfl, trivial⟩ ?_
          exact hK320 _ hw
      · replace hw := hw.2 c24
        refine V.aloadC_n hc hO.rf dL_law_159 rfl rfl ?_
        refine V.iload hc dL_law_160 rfl ?_
        refine V.bipush hc dL_law_162 (by decide) ?_
        refine V.callOI hc hO (qX11_of _ l _ _ _ _ _ _ hXF hw) mo_X11_of ml_L_78 rfl (as := [(0, x6), (0, 8)]) rfl rfl rfl rfl rfl rfl hn dL_law_164 (fun x78 g79 h77 e hw => ?_)
        replace hw := hw h77 e
        clear e
        refine V.istore hc dL_law_167 rfl (lo' := [(3, 0), (3, 1), (1, 0), (3, 4), (3, 5), (0, l5), (3, 7), (0, l7), (3, 8), (0, l9), (0, x4), (0, x6), (0, x78), (1, 0), (1, 0)]) rfl ?_
        refine V.aloadC_n hc hO.rf dL_law_169 rfl rfl ?_
        refine V.iload hc dL_law_170 rfl ?_
        refine V.bipush hc dL_law_172 (by decide) ?_
        refine V.callOI hc hO (qX11_of _ l _ _ _ _ _ _ hXF hw) mo_X11_of ml_L_78 rfl (as := [(0, x6), (0, 7)]) rfl rfl rfl rfl rfl rfl hn dL_law_174 (fun x81 g82 h80 e hw => ?_)
        replace hw := hw h80 e
        clear e
        refine V.istore hc dL_law_177 rfl (lo' := [(3, 0), (3, 1), (1, 0), (3, 4), (3, 5), (0, l5), (3, 7), (0, l7), (3, 8), (0, l9), (0, x4), (0, x6), (0, x78), (0, x81), (1, 0)]) rfl ?_
        refine V.aloadC_n hc hO.rf dL_law_179 rfl rfl ?_
        refine V.iload hc dL_law_180 rfl ?_
        refine V.iconst hc dL_law_182 ?_
        refine V.iload hc dL_law_183 rfl ?_
        refine V.bipush hc dL_law_185 (by decide) ?_
        refine V.ishr hc dL_law_187 ?_
        refine V.bipush hc dL_law_188 (by decide) ?_
        refine V.callSI hc (qL_most G l _ _ _ _ hw) mo_L_most ml_L_24 (as := [(0, bShr x4 8), (0, 64)]) rfl rfl rfl rfl rfl hn dL_law_190 (fun x84 h83 hw => ?_)
        refine V.iadd hc dL_law_193 ?_
        refine V.callOI hc hO (qX11_come _ l _ _ _ _ _ hw) mo_X11_come ml_L_110 rfl (as := [(0, x6), (0, 1 + x84)]) rfl rfl rfl rfl rfl rfl hn dL_law_194 (fun x86 g87 h85 e hw => ?_)
        replace hw := hw h85 e
        clear e
        refine V.istore hc dL_law_197 rfl (lo' := [(3, 0), (3, 1), (1, 0), (3, 4), (3, 5), (0, l5), (3, 7), (0, l7), (3, 8), (0, l9), (0, x4), (0, x6), (0, x78), (0, x81), (0, x86)]) rfl ?_
        refine V.aloadC_n hc hG.e4.rf dL_law_199 rfl rfl ?_
        refine V.iload hc dL_law_200 rfl ?_
        refine V.callSI hc (qL_isLeaf G l hG.e4 _ _ _ hw) mo_L_isLeaf ml_L_34 (as := [(3, 4), (0, x6)]) rfl rfl rfl rfl rfl hn dL_law_202 (fun x89 h88 hw => ?_)
        obtain ⟨g90, hw⟩ := hw
        refine V.if_ne hc (tgt := 229) dL_law_205 (by decide) g90 (fun c91 => ?_) (fun c91 => ?_)
        · replace hw := hw.1 c91
          refine V.iload hc dL_law_229 rfl ?_
          refine V.iload hc dL_law_231 rfl ?_
          refine V.bipush hc dL_law_233 (by decide) ?_
          obtain ⟨q94, hw⟩ := hw
          have kJ109 : ∀ t93 : Int, ((20 ≤ x78 → t93 = 20) ∧ (¬ 20 ≤ x78 → t93 = x78 + 1)) → V G p l e room_1 s m args below meth c Q 15 247 [(3, 0), (3, 1), (1, 0), (3, 4), (3, 5), (0, l5), (3, 7), (0, l7), (3, 8), (0, l9), (1, 0), (0, x6), (0, x78), (0, x81), (1, 0)] [(0, t93), (0, x86)] h88 n := by
            intro t93 he
            replace hw := hw t93 he
            clear he
            obtain ⟨g95, hw⟩ := hw
            obtain ⟨g96, hw⟩ := hw
            refine V.icmp_ne hc (tgt := 277) dL_law_247 (by decide) g95 g96 (fun c97 => ?_) (fun c97 => ?_)
            · replace hw := hw.1 c97
              refine V.drop (lo' := [(1, 0), (1, 0), (1, 0), (1, 0), (1, 0), (1, 0), (1, 0), (1, 0), (1, 0), (1, 0), (1, 0), (1, 0), (1, 0), (1, 0), (1, 0)]) ⟨Or.inl rfl, Or.inl rfl, Or.inr rfl, Or.inl rfl, Or.inl rfl, Or.inl rfl, Or.inl rfl, Or.inl rfl, Or.inl rfl, Or.inl rfl, Or.inr rfl, Or.inl rfl, Or.inl rfl, Or.inl rfl, Or.inr rfl, trivial⟩ ?_
              exact hK277 _ hw
            · replace hw := hw.2 c97
              refine V.aloadC_n hc hO.rf dL_law_250 rfl rfl ?_
              refine V.iload hc dL_law_251 rfl ?_
              refine V.bipush hc dL_law_253 (by decide) ?_
              refine V.callOI hc hO (qX11_of _ l _ _ _ _ _ _ hXF hw) mo_X11_of ml_L_78 rfl (as := [(0, x6), (0, 7)]) rfl rfl rfl rfl rfl rfl hn dL_law_255 (fun x99 g100 h98 e hw => ?_)
              replace hw := hw h98 e
              clear e
              refine V.iload hc dL_law_258 rfl ?_
              refine V.bipush hc dL_law_260 (by decide) ?_
              obtain ⟨q103, hw⟩ := hw
              have kJ107 : ∀ t102 : Int, ((20 ≤ x78 → t102 = x81 + 1) ∧ (¬ 20 ≤ x78 → t102 = x81)) → V G p l e room_1 s m args below meth c Q 15 274 [(3, 0), (3, 1), (1, 0), (3, 4), (3, 5), (0, l5), (3, 7), (0, l7), (3, 8), (0, l9), (1, 0), (1, 0), (1, 0), (1, 0), (1, 0)] [(0, t102), (0, x99)] h98 n := by
                intro t102 he
                replace hw := hw t102 he
                clear he
                obtain ⟨g104, hw⟩ := hw
                obtain ⟨g105, hw⟩ := hw
                refine V.icmp_eq hc (tgt := 279) dL_law_274 (by decide) g104 g105 (fun c106 => ?_) (fun c106 => ?_)
                · replace hw := hw.1 c106
                  refine V.iinc hc dL_law_279 rfl rfl (lo' := [(3, 0), (3, 1), (1, 0), (3, 4), (3, 5), (0, l5 + 1), (3, 7), (0, l7), (3, 8), (0, l9), (1, 0), (1, 0), (1, 0), (1, 0), (1, 0)]) rfl ?_
                  refine V.goto hc (tgt := 322) dL_law_282 (by decide) ?_
                  exact tL_law_322 hc hr hG hO hn hfin (fun y5 y7 y9 hy hw => by exact ih _ _ _ _ hw) (fun hy hw => by exact hK360 _ hw) (fun hy hw => by exact hK422 _ hw) hw
                · replace hw := hw.2 c106
                  refine V.drop (lo' := [(1, 0), (1, 0), (1, 0), (1, 0), (1, 0), (1, 0), (1, 0), (1, 0), (1, 0), (1, 0), (1, 0), (1, 0), (1, 0), (1, 0), (1, 0)]) ⟨Or.inl rfl, Or.inl rfl, Or.inr rfl, Or.inl rfl, Or.inl rfl, Or.inl rfl, Or.inl rfl, Or.inl rfl, Or.inl rfl, Or.inl rfl, Or.inr rfl, Or.inr rfl, Or.inr rfl, Or.inr rfl, Or.inr rfl, trivial⟩ ?_
                  exact hK277 _ hw
              have g101 := q103
              refine V.icmp_ge hc (tgt := 270) dL_law_262 (by decide) g101 (by omega) (fun c108 => ?_) (fun c108 => ?_)
              · refine V.iload hc dL_law_270 rfl ?_
                refine V.iconst hc dL_law_272 ?_
                refine V.iadd hc dL_law_273 ?_
                refine V.drop (lo' := [(3, 0), (3, 1), (1, 0), (3, 4), (3, 5), (0, l5), (3, 7), (0, l7), (3, 8), (0, l9), (1, 0), (1, 0), (1, 0), (1, 0), (1, 0)]) ⟨Or.inr rfl, Or.inr rfl, Or.inr rfl, Or.inr rfl, Or.inr rfl, Or.inr rfl, Or.inr rfl, Or.inr rfl, Or.inr rfl, Or.inr rfl, Or.inr rfl, Or.inl rfl, Or.inl rfl, Or.inl rfl, Or.inr rfl, trivial⟩ ?_
                exact kJ107 _ ⟨fun _ => rfl, (fun q => absurd c108 q)⟩
              · refine V.iload hc dL_law_265 rfl ?_
                refine V.goto hc (tgt := 274) dL_law_267 (by decide) ?_
                refine V.drop (lo' := [(3, 0), (3, 1), (1, 0), (3, 4), (3, 5), (0, l5), (3, 7), (0, l7), (3, 8), (0, l9), (1, 0), (1, 0), (1, 0), (1, 0), (1, 0)]) ⟨Or.inr rfl, Or.inr rfl, Or.inr rfl, Or.inr rfl, Or.inr rfl, Or.inr rfl, Or.inr rfl, Or.inr rfl, Or.inr rfl, Or.inr rfl, Or.inr rfl, Or.inl rfl, Or.inl rfl, Or.inl rfl, Or.inr rfl, trivial⟩ ?_
                exact kJ107 _ ⟨(fun q => absurd q c108), fun _ => rfl⟩
          have g92 := q94
          refine V.icmp_ge hc (tgt := 245) dL_law_235 (by decide) g92 (by omega) (fun c110 => ?_) (fun c110 => ?_)
          · refine V.bipush hc dL_law_245 (by decide) ?_
            refine V.drop (lo' := [(3, 0), (3, 1), (1, 0), (3, 4), (3, 5), (0, l5), (3, 7), (0, l7), (3, 8), (0, l9), (1, 0), (0, x6), (0, x78), (0, x81), (1, 0)]) ⟨Or.inr rfl, Or.inr rfl, Or.inr rfl, Or.inr rfl, Or.inr rfl, Or.inr rfl, Or.inr rfl, Or.inr rfl, Or.inr rfl, Or.inr rfl, Or.inl rfl, Or.inr rfl, Or.inr rfl, Or.inr rfl, Or.inl rfl, trivial⟩ ?_
            exact kJ109 _ ⟨fun _ => rfl, (fun q => absurd c110 q)⟩
          · refine V.iload hc dL_law_238 rfl ?_
            refine V.iconst hc dL_law_240 ?_
            refine V.iadd hc dL_law_241 ?_
            refine V.goto hc (tgt := 247) dL_law_242 (by decide) ?_
            refine V.drop (lo' := [(3, 0), (3, 1), (1, 0), (3, 4), (3, 5), (0, l5), (3, 7), (0, l7), (3, 8), (0, l9), (1, 0), (0, x6), (0, x78), (0, x81), (1, 0)]) ⟨Or.inr rfl, Or.inr rfl, Or.inr rfl, Or.inr rfl, Or.inr rfl, Or.inr rfl, Or.inr rfl, Or.inr rfl, Or.inr rfl, Or.inr rfl, Or.inl rfl, Or.inr rfl, Or.inr rfl, Or.inr rfl, Or.inl rfl, trivial⟩ ?_
            exact kJ109 _ ⟨(fun q => absurd q c110), fun _ => rfl⟩
        · replace hw := hw.2 c91
          refine V.iload hc dL_law_208 rfl ?_
          refine V.iconst hc dL_law_210 ?_
          obtain ⟨g111, hw⟩ := hw
          refine V.icmp_eq hc (tgt := 216) dL_law_211 (by decide) g111 (by omega) (fun c112 => ?_) (fun c112 => ?_)
          · replace hw := hw.1 c112
            refine V.aloadC hc hG.e8.rf dL_law_216 rfl ?_
            refine V.iload hc dL_law_218 rfl ?_
            refine V.aloadC hc hG.e8.rf dL_law_220 rfl ?_
            refine V.iload hc dL_law_222 rfl ?_
            obtain ⟨g113, hw⟩ := hw
            refine V.lald (ln := 17) hc hG.e8 (by decide) rfl g113 dL_law_224 ?_
            obtain ⟨g115, hw⟩ := hw
            refine V.last (ln := 17) hc hG.e8 (by decide) rfl g115 dL_law_225 (fun h114 e => ?_)
            replace hw := hw h114 e
            clear e
            refine V.goto hc (tgt := 424) dL_law_226 (by decide) ?_
            refine V.drop (lo' := [(3, 0), (3, 1), (1, 0), (3, 4), (3, 5), (0, l5), (3, 7), (0, l7), (3, 8), (0, l9), (1, 0), (1, 0), (1, 0), (1, 0), (1, 0)]) ⟨Or.inr rfl, Or.inr rfl, Or.inr rfl, Or.inr rfl, Or.inr rfl, Or.inr rfl, Or.inr rfl, Or.inr rfl, Or.inr rfl, Or.inr rfl, Or.inl rfl, Or.inl rfl, Or.inl rfl, Or.inl rfl, Or.inl rfl, trivial⟩ ?_
            exact tL_law_424 hc hr hG hO hn hfin (fun y5 y7 y9 hy hw => by exact ih _ _ _ _ hw) hw
          · replace hw := hw.2 c112
            refine V.drop (lo' := [(1, 0), (1, 0), (1, 0), (1, 0), (1, 0), (1, 0), (1, 0), (1, 0), (1, 0), (1, 0), (1, 0), (1, 0), (1, 0), (1, 0), (1, 0)]) ⟨Or.inl rfl, Or.inl rfl, Or.inr rfl, Or.inl rfl, Or.inl rfl, Or.inl rfl, Or.inl rfl, Or.inl rfl, Or.inl rfl, Or.inl rfl, Or.inl rfl, Or.inl rfl, Or.inl rfl, Or.inl rfl, Or.inl rfl, trivial⟩ ?_
            exact hK214 _ hw
theorem tL_law_545 {G : GG} {p : Program} {l : Launch} {e : Jvm.Env} {s : State} {m : MethodId} {args : Array Value} {below : List Frame} {meth : Method} {c : Code} {P : Int → HP → Prop} {Q : State → Prop} {n : Nat} (hc : VC G p room_1 s m args meth c RL cL_law 15 15) (hr : True) (hG : LG2 G) (hO : OB G 1) (hn : n ≤ room_1.cells ∧ 6 * n ≤ room_1.slots) (hfin : ∀ (pc : Nat) (lo : List TV) (x : Int) (h : HP), decode cL_law pc = .ok (.ireturn, 1) → P x h → V G p l e room_1 s m args below meth c Q 15 pc lo [(0, x)] h n) {K609 : HP → Prop} {K601 : HP → Prop} (hK609 : ∀  (h : HP), K609  h → V G p l e room_1 s m args below meth c Q 15 609 [(1, 0), (3, 1), (1, 0), (1, 0), (1, 0), (1, 0), (1, 0), (1, 0), (1, 0), (1, 0), (1, 0), (1, 0), (1, 0), (1, 0), (1, 0)] [] h n) (hK601 : ∀  (h : HP), K601  h → V G p l e room_1 s m args below meth c Q 15 601 [(1, 0), (1, 0), (1, 0), (1, 0), (1, 0), (1, 0), (1, 0), (1, 0), (1, 0), (1, 0), (1, 0), (1, 0), (1, 0), (1, 0), (1, 0)] [] h n) : ∀ (f : Nat) (l11 : Int) (h : HP), wL_law_545 G K609 K601 f l11 h → V G p l e room_1 s m args below meth c Q 15 545 [(1, 0), (3, 1), (1, 0), (1, 0), (1, 0), (1, 0), (1, 0), (1, 0), (3, 8), (1, 0), (1, 0), (0, l11), (1, 0), (1, 0), (1, 0)] [] h n := by
  intro f
  induction f with
  | zero =>
    intro l11 h hw
    exact hw.elim
  | succ f ih =>
    intro l11 h hw
    refine V.iload hc dL_law_545 rfl ?_
    obtain ⟨g173, hw⟩ := hw
    refine V.if_lt hc (tgt := 609) dL_law_547 (by decide) g173 (fun c174 => ?_) (fun c174 => ?_)
    · replace hw := hw.1 c174
      refine V.drop (lo' := [(1, 0), (3, 1), (1, 0), (1, 0), (1, 0), (1, 0), (1, 0), (1, 0), (1, 0), (1, 0), (1, 0), (1, 0), (1, 0), (1, 0), (1, 0)]) ⟨Or.inr rfl, Or.inr rfl, Or.inr rfl, Or.inr rfl, Or.inr rfl, Or.inr rfl, Or.inr rfl, Or.inr rfl, Or.inl rfl, Or.inr rfl, Or.inr rfl, Or.inl rfl, Or.inr rfl, Or.inr rfl, Or.inr rfl, trivial⟩ ?_
      exact hK609 _ hw
    · replace hw := hw.2 c174
      refine V.aloadC_n hc hO.rf dL_law_550 rfl rfl ?_
      refine V.callOI hc hO (qX11_undo _ l _ _ _ hw) mo_X11_undo ml_L_135 rfl (as := []) rfl rfl rfl rfl rfl rfl hn dL_law_551 (fun x176 g177 h175 e hw => ?_)
      replace hw := hw h175 e
      clear e
      refine V.iload hc dL_law_554 rfl ?_
      obtain ⟨g178, hw⟩ := hw
      obtain ⟨g179, hw⟩ := hw
      refine V.icmp_ne hc (tgt := 601) dL_law_556 (by decide) g178 g179 (fun c180 => ?_) (fun c180 => ?_)
      · replace hw := hw.1 c180
        refine V.drop (lo' := [(1, 0), (1, 0), (1, 0), (1, 0), (1, 0), (1, 0), (1, 0), (1, 0), (1, 0), (1, 0), (1, 0), (1, 0), (1, 0), (1, 0), (1, 0)]) ⟨Or.inr rfl, Or.inl rfl, Or.inr rfl, Or.inr rfl, Or.inr rfl, Or.inr rfl, Or.inr rfl, Or.inr rfl, Or.inl rfl, Or.inr rfl, Or.inr rfl, Or.inl rfl, Or.inr rfl, Or.inr rfl, Or.inr rfl, trivial⟩ ?_
        exact hK601 _ hw
      · replace hw := hw.2 c180
        refine V.aloadC_n hc hO.rf dL_law_559 rfl rfl ?_
        refine V.iconst hc dL_law_560 ?_
        refine V.callOI hc hO (qX11_count _ l _ _ _ _ _ hXF hw) mo_X11_count ml_L_75 rfl (as := [(0, 2)]) rfl rfl rfl rfl rfl rfl hn dL_law_561 (fun x182 g183 h181 e hw => ?_)
        replace hw := hw h181 e
        clear e
        refine V.bipush hc dL_law_564 (by decide) ?_
        refine V.imul hc dL_law_566 ?_
        refine V.aloadC_n hc hO.rf dL_law_567 rfl rfl ?_
        refine V.iconst hc dL_law_568 ?_
        refine V.callOI hc hO (qX11_count _ l _ _ _ _ _ hXF hw) mo_X11_count ml_L_75 rfl (as := [(0, 5)]) rfl rfl rfl rfl rfl rfl hn dL_law_569 (fun x185 g186 h184 e hw => ?_)
        replace hw := hw h184 e
        clear e
        refine V.ldc hc (x := 1000003) kl_L_109 dL_law_572 ?_
        refine V.imul hc dL_law_574 ?_
        refine V.iadd hc dL_law_575 ?_
        refine V.aloadC_n hc hO.rf dL_law_576 rfl rfl ?_
        refine V.bipush hc dL_law_577 (by decide) ?_
        refine V.callOI hc hO (qX11_count _ l _ _ _ _ _ hXF hw) mo_X11_count ml_L_75 rfl (as := [(0, 10)]) rfl rfl rfl rfl rfl rfl hn dL_law_579 (fun x188 g189 h187 e hw => ?_)
        replace hw := hw h187 e
        clear e
        refine V.bipush hc dL_law_582 (by decide) ?_
        refine V.imul hc dL_law_584 ?_
        refine V.iadd hc dL_law_585 ?_
        refine V.aloadC_n hc hO.rf dL_law_586 rfl rfl ?_
        refine V.bipush hc dL_law_587 (by decide) ?_
        refine V.callOI hc hO (qX11_count _ l _ _ _ _ _ hXF hw) mo_X11_count ml_L_75 rfl (as := [(0, 9)]) rfl rfl rfl rfl rfl rfl hn dL_law_589 (fun x191 g192 h190 e hw => ?_)
        replace hw := hw h190 e
        clear e
        refine V.iadd hc dL_law_592 ?_
        refine V.aloadC hc hG.e8.rf dL_law_593 rfl ?_
        refine V.iload hc dL_law_595 rfl ?_
        obtain ⟨g193, hw⟩ := hw
        refine V.lald (ln := 17) hc hG.e8 (by decide) rfl g193 dL_law_597 ?_
        obtain ⟨g194, hw⟩ := hw
        obtain ⟨g195, hw⟩ := hw
        refine V.icmp_eq hc (tgt := 603) dL_law_598 (by decide) g194 g195 (fun c196 => ?_) (fun c196 => ?_)
        · replace hw := hw.1 c196
          refine V.iinc hc dL_law_603 rfl rfl (lo' := [(1, 0), (3, 1), (1, 0), (1, 0), (1, 0), (1, 0), (1, 0), (1, 0), (3, 8), (1, 0), (1, 0), (0, l11 + (-1)), (1, 0), (1, 0), (1, 0)]) rfl ?_
          refine V.goto hc (tgt := 545) dL_law_606 (by decide) ?_
          exact ih _ _ hw
        · replace hw := hw.2 c196
          refine V.drop (lo' := [(1, 0), (1, 0), (1, 0), (1, 0), (1, 0), (1, 0), (1, 0), (1, 0), (1, 0), (1, 0), (1, 0), (1, 0), (1, 0), (1, 0), (1, 0)]) ⟨Or.inr rfl, Or.inl rfl, Or.inr rfl, Or.inr rfl, Or.inr rfl, Or.inr rfl, Or.inr rfl, Or.inr rfl, Or.inl rfl, Or.inr rfl, Or.inr rfl, Or.inl rfl, Or.inr rfl, Or.inr rfl, Or.inr rfl, trivial⟩ ?_
          exact hK601 _ hw
theorem qL_lawEnd {G : GG} {p : Program} {l : Launch} {e : Jvm.Env} {s : State} {m : MethodId} {args : Array Value} {below : List Frame} {meth : Method} {c : Code} {P : Int → HP → Prop} {Q : State → Prop} {n : Nat} (hc : VC G p room_1 s m args meth c RL cL_law 15 15) (hr : True) (hG : LG2 G) (hO : OB G 1) (hn : n ≤ room_1.cells ∧ 6 * n ≤ room_1.slots) (hfin : ∀ (pc : Nat) (lo : List TV) (x : Int) (h : HP), decode cL_law pc = .ok (.ireturn, 1) → P x h → V G p l e room_1 s m args below meth c Q 15 pc lo [(0, x)] h n) {l5 l7 l9 : Int} {h : HP} (hw : wL_lawEnd G P h l5 l7 l9) : V G p l e room_1 s m args below meth c Q 15 81 [(3, 0), (3, 1), (3, 3), (3, 4), (3, 5), (0, l5), (3, 7), (0, l7), (3, 8), (0, l9), (1, 0), (1, 0), (1, 0), (1, 0), (1, 0)] [] h n := by
  unfold wL_lawEnd at hw
  obtain ⟨f116, hw⟩ := hw
  refine V.drop (lo' := [(3, 0), (3, 1), (1, 0), (3, 4), (3, 5), (0, l5), (3, 7), (0, l7), (3, 8), (0, l9), (1, 0), (1, 0), (1, 0), (1, 0), (1, 0)]) ⟨Or.inr rfl, Or.inr rfl, Or.inl rfl, Or.inr rfl, Or.inr rfl, Or.inr rfl, Or.inr rfl, Or.inr rfl, Or.inr rfl, Or.inr rfl, Or.inr rfl, Or.inr rfl, Or.inr rfl, Or.inr rfl, Or.inr rfl, trivial⟩ ?_
  refine tL_law_81 hc hr hG hO hn hfin ?_ ?_ ?_ ?_ ?_ ?_ f116 _ _ _ _ hw
  · intro l117 h118 hw
    refine V.aloadC_n hc hO.rf dL_law_430 rfl rfl ?_
    refine V.iconst hc dL_law_431 ?_
    refine V.callOI hc hO (qX11_count _ l _ _ _ _ _ hXF hw) mo_X11_count ml_L_75 rfl (as := [(0, 2)]) rfl rfl rfl rfl rfl rfl hn dL_law_432 (fun x120 g121 h119 e hw => ?_)
    replace hw := hw h119 e
    clear e
    refine V.istore hc dL_law_435 rfl (lo' := [(3, 0), (3, 1), (1, 0), (1, 0), (1, 0), (1, 0), (1, 0), (0, l117), (3, 8), (0, x120), (1, 0), (1, 0), (1, 0), (1, 0), (1, 0)]) rfl ?_
    refine V.aloadC_n hc hO.rf dL_law_437 rfl rfl ?_
    refine V.bipush hc dL_law_438 (by decide) ?_
    refine V.callOI hc hO (qX11_count _ l _ _ _ _ _ hXF hw) mo_X11_count ml_L_75 rfl (as := [(0, 10)]) rfl rfl rfl rfl rfl rfl hn dL_law_440 (fun x123 g124 h122 e hw => ?_)
    replace hw := hw h122 e
    clear e
    refine V.istore hc dL_law_443 rfl (lo' := [(3, 0), (3, 1), (1, 0), (1, 0), (1, 0), (1, 0), (1, 0), (0, l117), (3, 8), (0, x120), (0, x123), (1, 0), (1, 0), (1, 0), (1, 0)]) rfl ?_
    refine V.aloadC_n hc hO.rf dL_law_445 rfl rfl ?_
    refine V.callOV hc hO (qX11_image _ l _ _ _ hw) mo_X11_image ml_L_124 rfl (as := []) rfl rfl rfl rfl rfl rfl hn dL_law_446 (fun g126 h125 e hw => ?_)
    replace hw := hw h125 e
    clear e
    refine V.aloadC_n hc hO.rf dL_law_449 rfl rfl ?_
    refine V.aloadC_n hc ⟨_, rfl⟩ dL_law_450 rfl rfl ?_
    refine V.bipush hc dL_law_451 (by decide) ?_
    refine V.callSI hc (qL_cell G l _ _ _ hw) mo_L_cell ml_L_20 (as := [(3, 0), (0, 30)]) rfl rfl rfl rfl rfl hn dL_law_453 (fun x128 h127 hw => ?_)
    refine V.aloadC_n hc ⟨_, rfl⟩ dL_law_456 rfl rfl ?_
    refine V.bipush hc dL_law_457 (by decide) ?_
    refine V.callSI hc (qL_cell G l _ _ _ hw) mo_L_cell ml_L_20 (as := [(3, 0), (0, 31)]) rfl rfl rfl rfl rfl hn dL_law_459 (fun x130 h129 hw => ?_)
    refine V.bipush hc dL_law_462 (by decide) ?_
    refine V.callSI hc (qL_most G l _ _ _ _ hw) mo_L_most ml_L_24 (as := [(0, x130), (0, 9)]) rfl rfl rfl rfl rfl hn dL_law_464 (fun x132 h131 hw => ?_)
    refine V.iconst hc dL_law_467 ?_
    refine V.callOI hc hO (qX11_years _ l _ _ _ _ _ _ _ hXF hw) mo_X11_years ml_L_127 rfl (as := [(0, x128), (0, x132), (0, 1)]) rfl rfl rfl rfl rfl rfl hn dL_law_468 (fun x134 g135 h133 e hw => ?_)
    replace hw := hw h133 e
    clear e
    obtain ⟨g136, hw⟩ := hw
    refine V.if_lt hc (tgt := 537) dL_law_471 (by decide) g136 (fun c137 => ?_) (fun c137 => ?_)
    · replace hw := hw.1 c137
      refine V.iconst hc dL_law_537 ?_
      exact hfin _ _ _ _ dL_law_538 hw
    · replace hw := hw.2 c137
      refine V.aloadC_n hc hO.rf dL_law_474 rfl rfl ?_
      refine V.iconst hc dL_law_475 ?_
      refine V.callOI hc hO (qX11_count _ l _ _ _ _ _ hXF hw) mo_X11_count ml_L_75 rfl (as := [(0, 2)]) rfl rfl rfl rfl rfl rfl hn dL_law_476 (fun x139 g140 h138 e hw => ?_)
      replace hw := hw h138 e
      clear e
      refine V.iload hc dL_law_479 rfl ?_
      obtain ⟨g141, hw⟩ := hw
      obtain ⟨g142, hw⟩ := hw
      refine V.icmp_ne hc (tgt := 537) dL_law_481 (by decide) g141 g142 (fun c143 => ?_) (fun c143 => ?_)
      · replace hw := hw.1 c143
        refine V.iconst hc dL_law_537 ?_
        exact hfin _ _ _ _ dL_law_538 hw
      · replace hw := hw.2 c143
        refine V.aloadC_n hc hO.rf dL_law_484 rfl rfl ?_
        refine V.bipush hc dL_law_485 (by decide) ?_
        refine V.callOI hc hO (qX11_units _ l _ _ _ _ hw) mo_X11_units ml_L_113 rfl (as := [(0, 50)]) rfl rfl rfl rfl rfl rfl hn dL_law_487 (fun x145 g146 h144 e hw => ?_)
        replace hw := hw h144 e
        clear e
        refine V.iload hc dL_law_490 rfl ?_
        refine V.bipush hc dL_law_492 (by decide) ?_
        refine V.iadd hc dL_law_494 ?_
        obtain ⟨g147, hw⟩ := hw
        obtain ⟨g148, hw⟩ := hw
        refine V.icmp_ne hc (tgt := 537) dL_law_495 (by decide) g147 g148 (fun c149 => ?_) (fun c149 => ?_)
        · replace hw := hw.1 c149
          refine V.iconst hc dL_law_537 ?_
          exact hfin _ _ _ _ dL_law_538 hw
        · replace hw := hw.2 c149
          refine V.aloadC_n hc hO.rf dL_law_498 rfl rfl ?_
          refine V.callOI hc hO (qX11_restore _ l _ _ _ hw) mo_X11_restore ml_L_131 rfl (as := []) rfl rfl rfl rfl rfl rfl hn dL_law_499 (fun x151 g152 h150 e hw => ?_)
          replace hw := hw h150 e
          clear e
          obtain ⟨g153, hw⟩ := hw
          refine V.if_eq hc (tgt := 537) dL_law_502 (by decide) g153 (fun c154 => ?_) (fun c154 => ?_)
          · replace hw := hw.1 c154
            refine V.iconst hc dL_law_537 ?_
            exact hfin _ _ _ _ dL_law_538 hw
          · replace hw := hw.2 c154
            refine V.aloadC_n hc hO.rf dL_law_505 rfl rfl ?_
            refine V.iconst hc dL_law_506 ?_
            refine V.callOI hc hO (qX11_count _ l _ _ _ _ _ hXF hw) mo_X11_count ml_L_75 rfl (as := [(0, 2)]) rfl rfl rfl rfl rfl rfl hn dL_law_507 (fun x156 g157 h155 e hw => ?_)
            replace hw := hw h155 e
            clear e
            refine V.iload hc dL_law_510 rfl ?_
            obtain ⟨g158, hw⟩ := hw
            obtain ⟨g159, hw⟩ := hw
            refine V.icmp_ne hc (tgt := 537) dL_law_512 (by decide) g158 g159 (fun c160 => ?_) (fun c160 => ?_)
            · replace hw := hw.1 c160
              refine V.iconst hc dL_law_537 ?_
              exact hfin _ _ _ _ dL_law_538 hw
            · replace hw := hw.2 c160
              refine V.aloadC_n hc hO.rf dL_law_515 rfl rfl ?_
              refine V.bipush hc dL_law_516 (by decide) ?_
              refine V.callOI hc hO (qX11_count _ l _ _ _ _ _ hXF hw) mo_X11_count ml_L_75 rfl (as := [(0, 10)]) rfl rfl rfl rfl rfl rfl hn dL_law_518 (fun x162 g163 h161 e hw => ?_)
              replace hw := hw h161 e
              clear e
              refine V.iload hc dL_law_521 rfl ?_
              obtain ⟨g164, hw⟩ := hw
              obtain ⟨g165, hw⟩ := hw
              refine V.icmp_ne hc (tgt := 537) dL_law_523 (by decide) g164 g165 (fun c166 => ?_) (fun c166 => ?_)
              · replace hw := hw.1 c166
                refine V.iconst hc dL_law_537 ?_
                exact hfin _ _ _ _ dL_law_538 hw
              · replace hw := hw.2 c166
                refine V.aloadC_n hc hO.rf dL_law_526 rfl rfl ?_
                refine V.bipush hc dL_law_527 (by decide) ?_
                refine V.callOI hc hO (qX11_count _ l _ _ _ _ _ hXF hw) mo_X11_count ml_L_75 rfl (as := [(0, 12)]) rfl rfl rfl rfl rfl rfl hn dL_law_529 (fun x168 g169 h167 e hw => ?_)
                replace hw := hw h167 e
                clear e
                refine V.iload hc dL_law_532 rfl ?_
                obtain ⟨g170, hw⟩ := hw
                obtain ⟨g171, hw⟩ := hw
                refine V.icmp_eq hc (tgt := 539) dL_law_534 (by decide) g170 g171 (fun c172 => ?_) (fun c172 => ?_)
                · replace hw := hw.1 c172
                  refine V.iload hc dL_law_539 rfl ?_
                  refine V.iconst hc dL_law_541 ?_
                  refine V.isub hc dL_law_542 ?_
                  refine V.istore hc dL_law_543 rfl (lo' := [(3, 0), (3, 1), (1, 0), (1, 0), (1, 0), (1, 0), (1, 0), (0, l117), (3, 8), (0, x120), (0, x123), (0, l117 - 1), (1, 0), (1, 0), (1, 0)]) rfl ?_
                  obtain ⟨f197, hw⟩ := hw
                  refine V.drop (lo' := [(1, 0), (3, 1), (1, 0), (1, 0), (1, 0), (1, 0), (1, 0), (1, 0), (3, 8), (1, 0), (1, 0), (0, l117 - 1), (1, 0), (1, 0), (1, 0)]) ⟨Or.inl rfl, Or.inr rfl, Or.inr rfl, Or.inr rfl, Or.inr rfl, Or.inr rfl, Or.inr rfl, Or.inl rfl, Or.inr rfl, Or.inl rfl, Or.inl rfl, Or.inr rfl, Or.inr rfl, Or.inr rfl, Or.inr rfl, trivial⟩ ?_
                  refine tL_law_545 hc hr hG hO hn hfin ?_ ?_ f197 _ _ hw
                  · intro h198 hw
                    refine V.aloadC_n hc hO.rf dL_law_609 rfl rfl ?_
                    refine V.callOI hc hO (qX11_undo _ l _ _ _ hw) mo_X11_undo ml_L_135 rfl (as := []) rfl rfl rfl rfl rfl rfl hn dL_law_610 (fun x200 g201 h199 e hw => ?_)
                    replace hw := hw h199 e
                    clear e
                    refine V.iconst hc dL_law_613 ?_
                    obtain ⟨g202, hw⟩ := hw
                    refine V.icmp_ne hc (tgt := 647) dL_law_614 (by decide) g202 (by omega) (fun c203 => ?_) (fun c203 => ?_)
                    · replace hw := hw.1 c203
                      refine V.iconst hc dL_law_647 ?_
                      exact hfin _ _ _ _ dL_law_648 hw
                    · replace hw := hw.2 c203
                      refine V.aloadC_n hc hO.rf dL_law_617 rfl rfl ?_
                      refine V.iconst hc dL_law_618 ?_
                      refine V.callOI hc hO (qX11_count _ l _ _ _ _ _ hXF hw) mo_X11_count ml_L_75 rfl (as := [(0, 2)]) rfl rfl rfl rfl rfl rfl hn dL_law_619 (fun x205 g206 h204 e hw => ?_)
                      replace hw := hw h204 e
                      clear e
                      obtain ⟨g207, hw⟩ := hw
                      refine V.if_ne hc (tgt := 647) dL_law_622 (by decide) g207 (fun c208 => ?_) (fun c208 => ?_)
                      · replace hw := hw.1 c208
                        refine V.iconst hc dL_law_647 ?_
                        exact hfin _ _ _ _ dL_law_648 hw
                      · replace hw := hw.2 c208
                        refine V.aloadC_n hc hO.rf dL_law_625 rfl rfl ?_
                        refine V.bipush hc dL_law_626 (by decide) ?_
                        refine V.callOI hc hO (qX11_count _ l _ _ _ _ _ hXF hw) mo_X11_count ml_L_75 rfl (as := [(0, 6)]) rfl rfl rfl rfl rfl rfl hn dL_law_628 (fun x210 g211 h209 e hw => ?_)
                        replace hw := hw h209 e
                        clear e
                        obtain ⟨g212, hw⟩ := hw
                        refine V.if_ne hc (tgt := 647) dL_law_631 (by decide) g212 (fun c213 => ?_) (fun c213 => ?_)
                        · replace hw := hw.1 c213
                          refine V.iconst hc dL_law_647 ?_
                          exact hfin _ _ _ _ dL_law_648 hw
                        · replace hw := hw.2 c213
                          refine V.aloadC_n hc hO.rf dL_law_634 rfl rfl ?_
                          refine V.bipush hc dL_law_635 (by decide) ?_
                          refine V.callOI hc hO (qX11_count _ l _ _ _ _ _ hXF hw) mo_X11_count ml_L_75 rfl (as := [(0, 9)]) rfl rfl rfl rfl rfl rfl hn dL_law_637 (fun x215 g216 h214 e hw => ?_)
                          replace hw := hw h214 e
                          clear e
                          obtain ⟨g217, hw⟩ := hw
                          refine V.if_ne hc (tgt := 647) dL_law_640 (by decide) g217 (fun c218 => ?_) (fun c218 => ?_)
                          · replace hw := hw.1 c218
                            refine V.iconst hc dL_law_647 ?_
                            exact hfin _ _ _ _ dL_law_648 hw
                          · replace hw := hw.2 c218
                            refine V.iconst hc dL_law_643 ?_
                            refine V.goto hc (tgt := 648) dL_law_644 (by decide) ?_
                            exact hfin _ _ _ _ dL_law_648 hw
                  · intro h219 hw
                    refine V.iconst hc dL_law_601 ?_
                    exact hfin _ _ _ _ dL_law_602 hw
                · replace hw := hw.2 c172
                  refine V.iconst hc dL_law_537 ?_
                  exact hfin _ _ _ _ dL_law_538 hw
  · intro h220 hw
    refine V.iconst hc dL_law_214 ?_
    exact hfin _ _ _ _ dL_law_215 hw
  · intro h221 hw
    refine V.iconst hc dL_law_277 ?_
    exact hfin _ _ _ _ dL_law_278 hw
  · intro h222 hw
    refine V.iconst hc dL_law_320 ?_
    exact hfin _ _ _ _ dL_law_321 hw
  · intro h223 hw
    refine V.iconst hc dL_law_360 ?_
    exact hfin _ _ _ _ dL_law_361 hw
  · intro h224 hw
    refine V.iconst hc dL_law_422 ?_
    exact hfin _ _ _ _ dL_law_423 hw
