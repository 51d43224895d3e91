/-! the law's wrappers: an answer put by, or which exception it was -/
theorem clL_13 : Cond.classLink RL 13 "java/lang/IllegalArgumentException" ∈ tblG := tin 798 (by decide +kernel) (by decide)
theorem clL_18 : Cond.classLink RL 18 "java/util/NoSuchElementException" ∈ tblG := tin 1019 (by decide +kernel) (by decide)
theorem ml_L_7 : Cond.methodLink RL 7 yX11_link ∈ tblG := tin 799 (by decide +kernel) (by decide)
theorem mw_L_link : MOw yL_link cL_link 4 [(0, 9, 12, 13)] 3 := ⟨tin 796 (by decide +kernel) (by decide), tin 99 (by decide +kernel) (by decide), tin 797 (by decide +kernel) (by decide), by decide +kernel, by decide +kernel⟩
theorem qL_link (G : GG) (l : Launch) (hlf : l.stackTraces = false) (va : Int) (h : HP) (P : Int → HP → Prop) (hw : wX11_link 0 va h (fun x g => P 0 (up g 77 8 0 (nrm x))) (fun k g => kI k ∧ P (ecI k) g)) : CwI l G yL_link cL_link 4 [(0, 9, 12, 13)] 16 1 [(21, 0), (0, va), (87, 8)] h (fun kk g => (0 ≤ kk ∧ kk ≤ 2) ∧ P kk g) := by
  refine CwI.of (lo := [(21, 0), (0, va), (87, 8), (1, 0)]) (by decide) rfl rfl rfl ?_
  intro p e s m args below meth c hc hr hxt
  have hc : VC G p (rmD 16 1) s m args meth c RL cL_link 4 16 := hc
  refine V.aload_n (t := 77) hc dL_link_0 rfl rfl ?_
  refine V.iconst hc dL_link_1 ?_
  refine V.aload_n (t := 11) hc dL_link_2 rfl rfl ?_
  refine V.iload_n hc dL_link_3 rfl rfl ?_
  refine V.callVIc hc hxt (qX11_link G l hlf _ _ _ _ _ hw) mo_X11_link ml_L_7 (by rfl) rfl rfl (as := [(0, va)]) rfl rfl rfl rfl rfl ⟨Nat.le_of_ble_eq_true rfl, Nat.le_of_ble_eq_true rfl⟩ dL_link_4 (fun k9 g q9 hx => ?_) (fun x g hp => ?_)
  · obtain ⟨hk, hx⟩ := hx
    unfold kI at hk
    subst hk
    refine ⟨Or.inr rfl, 12, ⟨[], _, [], rfl, fun z hz => absurd hz List.not_mem_nil, by decide, by decide, clL_13, rfl⟩, ?_⟩
    refine V.astoreX_n hc dL_link_12 rfl rfl (lo' := [(21, 0), (0, va), (87, 8), (5, q9)]) rfl ?_
    refine V.iconst hc dL_link_13 ?_
    exact V.xiret hc hr dL_link_14 rfl ⟨by omega, hx⟩
  refine V.i2lN hc dL_link_7 ?_
  refine V.jst hc (by omega) dL_link_8 (fun g1 e1 => ?_)
  subst e1
  refine V.goto hc (tgt := 15) dL_link_9 (by decide) ?_
  refine V.iconst hc dL_link_15 ?_
  exact V.xiret hc hr dL_link_16 rfl ⟨by omega, hp⟩
theorem ml_L_15 : Cond.methodLink RL 15 yX11_count ∈ tblG := tin 1020 (by decide +kernel) (by decide)
theorem mw_L_count : MOw yL_count cL_count 4 [(0, 9, 12, 18)] 3 := ⟨tin 1017 (by decide +kernel) (by decide), tin 99 (by decide +kernel) (by decide), tin 1018 (by decide +kernel) (by decide), by decide +kernel, by decide +kernel⟩
theorem qL_count (G : GG) (l : Launch) (hlf : l.stackTraces = false) (va : Int) (h : HP) (P : Int → HP → Prop) (hw : wX11_count 0 va h (fun x g => P 0 (up g 77 8 0 (nrm x))) (fun k g => kA k ∧ P (ecA k) g)) : CwI l G yL_count cL_count 4 [(0, 9, 12, 18)] 12 1 [(21, 0), (0, va), (87, 8)] h (fun kk g => (0 ≤ kk ∧ kk ≤ 2) ∧ P kk g) := by
  refine CwI.of (lo := [(21, 0), (0, va), (87, 8), (1, 0)]) (by decide) rfl rfl rfl ?_
  intro p e s m args below meth c hc hr hxt
  have hc : VC G p (rmD 12 1) s m args meth c RL cL_count 4 12 := hc
  refine V.aload_n (t := 77) hc dL_count_0 rfl rfl ?_
  refine V.iconst hc dL_count_1 ?_
  refine V.aload_n (t := 11) hc dL_count_2 rfl rfl ?_
  refine V.iload_n hc dL_count_3 rfl rfl ?_
  refine V.callVIc hc hxt (qX11_count G l hlf _ _ _ _ _ hw) mo_X11_count ml_L_15 (by rfl) rfl rfl (as := [(0, va)]) rfl rfl rfl rfl rfl ⟨Nat.le_of_ble_eq_true rfl, Nat.le_of_ble_eq_true rfl⟩ dL_count_4 (fun k9 g q9 hx => ?_) (fun x g hp => ?_)
  · obtain ⟨hk, hx⟩ := hx
    unfold kA at hk
    subst hk
    refine ⟨Or.inl rfl, 12, ⟨[], _, [], rfl, fun z hz => absurd hz List.not_mem_nil, by decide, by decide, clL_18, rfl⟩, ?_⟩
    refine V.astoreX_n hc dL_count_12 rfl rfl (lo' := [(21, 0), (0, va), (87, 8), (5, q9)]) rfl ?_
    refine V.iconst hc dL_count_13 ?_
    exact V.xiret hc hr dL_count_14 rfl ⟨by omega, hx⟩
  refine V.i2lN hc dL_count_7 ?_
  refine V.jst hc (by omega) dL_count_8 (fun g1 e1 => ?_)
  subst e1
  refine V.goto hc (tgt := 15) dL_count_9 (by decide) ?_
  refine V.iconst hc dL_count_15 ?_
  exact V.xiret hc hr dL_count_16 rfl ⟨by omega, hp⟩
theorem ml_L_20 : Cond.methodLink RL 20 yX11_of ∈ tblG := tin 1055 (by decide +kernel) (by decide)
theorem mw_L_of : MOw yL_of cL_of 5 [(0, 10, 13, 18)] 4 := ⟨tin 1053 (by decide +kernel) (by decide), tin 99 (by decide +kernel) (by decide), tin 1054 (by decide +kernel) (by decide), by decide +kernel, by decide +kernel⟩
theorem qL_of (G : GG) (l : Launch) (hlf : l.stackTraces = false) (vc va : Int) (h : HP) (P : Int → HP → Prop) (hw : wX11_of 0 vc va h (fun x g => P 0 (up g 77 8 0 (nrm x))) (fun k g => kA k ∧ P (ecA k) g)) : CwI l G yL_of cL_of 5 [(0, 10, 13, 18)] 12 2 [(21, 0), (0, vc), (0, va), (87, 8)] h (fun kk g => (0 ≤ kk ∧ kk ≤ 2) ∧ P kk g) := by
  refine CwI.of (lo := [(21, 0), (0, vc), (0, va), (87, 8), (1, 0)]) (by decide) rfl rfl rfl ?_
  intro p e s m args below meth c hc hr hxt
  have hc : VC G p (rmD 12 2) s m args meth c RL cL_of 5 12 := hc
  refine V.aload_n (t := 77) hc dL_of_0 rfl rfl ?_
  refine V.iconst hc dL_of_1 ?_
  refine V.aload_n (t := 11) hc dL_of_2 rfl rfl ?_
  refine V.iload_n hc dL_of_3 rfl rfl ?_
  refine V.iload_n hc dL_of_4 rfl rfl ?_
  refine V.callVIc hc hxt (qX11_of G l hlf _ _ _ _ _ _ hw) mo_X11_of ml_L_20 (by rfl) rfl rfl (as := [(0, vc), (0, va)]) rfl rfl rfl rfl rfl ⟨Nat.le_of_ble_eq_true rfl, Nat.le_of_ble_eq_true rfl⟩ dL_of_5 (fun k9 g q9 hx => ?_) (fun x g hp => ?_)
  · obtain ⟨hk, hx⟩ := hx
    unfold kA at hk
    subst hk
    refine ⟨Or.inl rfl, 13, ⟨[], _, [], rfl, fun z hz => absurd hz List.not_mem_nil, by decide, by decide, clL_18, rfl⟩, ?_⟩
    refine V.astoreX hc dL_of_13 rfl (lo' := [(21, 0), (0, vc), (0, va), (87, 8), (5, q9)]) rfl ?_
    refine V.iconst hc dL_of_15 ?_
    exact V.xiret hc hr dL_of_16 rfl ⟨by omega, hx⟩
  refine V.i2lN hc dL_of_8 ?_
  refine V.jst hc (by omega) dL_of_9 (fun g1 e1 => ?_)
  subst e1
  refine V.goto hc (tgt := 17) dL_of_10 (by decide) ?_
  refine V.iconst hc dL_of_17 ?_
  exact V.xiret hc hr dL_of_18 rfl ⟨by omega, hp⟩
theorem ml_L_24 : Cond.methodLink RL 24 yX11_curve ∈ tblG := tin 1074 (by decide +kernel) (by decide)
theorem mw_L_curve : MOw yL_curve cL_curve 6 [(0, 12, 15, 18)] 5 := ⟨tin 1072 (by decide +kernel) (by decide), tin 99 (by decide +kernel) (by decide), tin 1073 (by decide +kernel) (by decide), by decide +kernel, by decide +kernel⟩
theorem qL_curve (G : GG) (l : Launch) (hlf : l.stackTraces = false) (vc vkk va : Int) (h : HP) (P : Int → HP → Prop) (hw : wX11_curve 0 vc vkk va h (fun x g => P 0 (up g 77 8 0 (nrm x))) (fun k g => kA k ∧ P (ecA k) g)) : CwI l G yL_curve cL_curve 6 [(0, 12, 15, 18)] 11 2 [(21, 0), (0, vc), (0, vkk), (0, va), (87, 8)] h (fun kk g => (0 ≤ kk ∧ kk ≤ 2) ∧ P kk g) := by
  refine CwI.of (lo := [(21, 0), (0, vc), (0, vkk), (0, va), (87, 8), (1, 0)]) (by decide) rfl rfl rfl ?_
  intro p e s m args below meth c hc hr hxt
  have hc : VC G p (rmD 11 2) s m args meth c RL cL_curve 6 11 := hc
  refine V.aload (t := 77) hc dL_curve_0 rfl ?_
  refine V.iconst hc dL_curve_2 ?_
  refine V.aload_n (t := 11) hc dL_curve_3 rfl rfl ?_
  refine V.iload_n hc dL_curve_4 rfl rfl ?_
  refine V.iload_n hc dL_curve_5 rfl rfl ?_
  refine V.iload_n hc dL_curve_6 rfl rfl ?_
  refine V.callVIc hc hxt (qX11_curve G l hlf _ _ _ _ _ _ _ hw) mo_X11_curve ml_L_24 (by rfl) rfl rfl (as := [(0, vc), (0, vkk), (0, va)]) rfl rfl rfl rfl rfl ⟨Nat.le_of_ble_eq_true rfl, Nat.le_of_ble_eq_true rfl⟩ dL_curve_7 (fun k9 g q9 hx => ?_) (fun x g hp => ?_)
  · obtain ⟨hk, hx⟩ := hx
    unfold kA at hk
    subst hk
    refine ⟨Or.inl rfl, 15, ⟨[], _, [], rfl, fun z hz => absurd hz List.not_mem_nil, by decide, by decide, clL_18, rfl⟩, ?_⟩
    refine V.astoreX hc dL_curve_15 rfl (lo' := [(21, 0), (0, vc), (0, vkk), (0, va), (87, 8), (5, q9)]) rfl ?_
    refine V.iconst hc dL_curve_17 ?_
    exact V.xiret hc hr dL_curve_18 rfl ⟨by omega, hx⟩
  refine V.i2lN hc dL_curve_10 ?_
  refine V.jst hc (by omega) dL_curve_11 (fun g1 e1 => ?_)
  subst e1
  refine V.goto hc (tgt := 19) dL_curve_12 (by decide) ?_
  refine V.iconst hc dL_curve_19 ?_
  exact V.xiret hc hr dL_curve_20 rfl ⟨by omega, hp⟩
theorem ml_L_28 : Cond.methodLink RL 28 yX11_packet ∈ tblG := tin 1081 (by decide +kernel) (by decide)
theorem mw_L_packet : MOw yL_packet cL_packet 5 [(0, 10, 13, 18)] 4 := ⟨tin 1079 (by decide +kernel) (by decide), tin 99 (by decide +kernel) (by decide), tin 1080 (by decide +kernel) (by decide), by decide +kernel, by decide +kernel⟩
theorem qL_packet (G : GG) (l : Launch) (hlf : l.stackTraces = false) (vc vi : Int) (h : HP) (P : Int → HP → Prop) (hw : wX11_packet 0 vc vi h (fun x g => P 0 (up g 77 8 0 (nrm x))) (fun k g => kA k ∧ P (ecA k) g)) : CwI l G yL_packet cL_packet 5 [(0, 10, 13, 18)] 11 2 [(21, 0), (0, vc), (0, vi), (87, 8)] h (fun kk g => (0 ≤ kk ∧ kk ≤ 2) ∧ P kk g) := by
  refine CwI.of (lo := [(21, 0), (0, vc), (0, vi), (87, 8), (1, 0)]) (by decide) rfl rfl rfl ?_
  intro p e s m args below meth c hc hr hxt
  have hc : VC G p (rmD 11 2) s m args meth c RL cL_packet 5 11 := hc
  refine V.aload_n (t := 77) hc dL_packet_0 rfl rfl ?_
  refine V.iconst hc dL_packet_1 ?_
  refine V.aload_n (t := 11) hc dL_packet_2 rfl rfl ?_
  refine V.iload_n hc dL_packet_3 rfl rfl ?_
  refine V.iload_n hc dL_packet_4 rfl rfl ?_
  refine V.callVIc hc hxt (qX11_packet G l hlf _ _ _ _ _ _ hw) mo_X11_packet ml_L_28 (by rfl) rfl rfl (as := [(0, vc), (0, vi)]) rfl rfl rfl rfl rfl ⟨Nat.le_of_ble_eq_true rfl, Nat.le_of_ble_eq_true rfl⟩ dL_packet_5 (fun k9 g q9 hx => ?_) (fun x g hp => ?_)
  · obtain ⟨hk, hx⟩ := hx
    unfold kA at hk
    subst hk
    refine ⟨Or.inl rfl, 13, ⟨[], _, [], rfl, fun z hz => absurd hz List.not_mem_nil, by decide, by decide, clL_18, rfl⟩, ?_⟩
    refine V.astoreX hc dL_packet_13 rfl (lo' := [(21, 0), (0, vc), (0, vi), (87, 8), (5, q9)]) rfl ?_
    refine V.iconst hc dL_packet_15 ?_
    exact V.xiret hc hr dL_packet_16 rfl ⟨by omega, hx⟩
  refine V.i2lN hc dL_packet_8 ?_
  refine V.jst hc (by omega) dL_packet_9 (fun g1 e1 => ?_)
  subst e1
  refine V.goto hc (tgt := 17) dL_packet_10 (by decide) ?_
  refine V.iconst hc dL_packet_17 ?_
  exact V.xiret hc hr dL_packet_18 rfl ⟨by omega, hp⟩
theorem ml_L_31 : Cond.methodLink RL 31 yX11_due ∈ tblG := tin 1089 (by decide +kernel) (by decide)
theorem mw_L_due : MOw yL_due cL_due 5 [(0, 10, 13, 18)] 4 := ⟨tin 1087 (by decide +kernel) (by decide), tin 99 (by decide +kernel) (by decide), tin 1088 (by decide +kernel) (by decide), by decide +kernel, by decide +kernel⟩
theorem qL_due (G : GG) (l : Launch) (hlf : l.stackTraces = false) (vc va : Int) (h : HP) (P : Int → HP → Prop) (hw : wX11_due 0 vc va h (fun x g => P 0 (up g 77 8 0 (nrm x))) (fun k g => kA k ∧ P (ecA k) g)) : CwI l G yL_due cL_due 5 [(0, 10, 13, 18)] 12 2 [(21, 0), (0, vc), (0, va), (87, 8)] h (fun kk g => (0 ≤ kk ∧ kk ≤ 2) ∧ P kk g) := by
  refine CwI.of (lo := [(21, 0), (0, vc), (0, va), (87, 8), (1, 0)]) (by decide) rfl rfl rfl ?_
  intro p e s m args below meth c hc hr hxt
  have hc : VC G p (rmD 12 2) s m args meth c RL cL_due 5 12 := hc
  refine V.aload_n (t := 77) hc dL_due_0 rfl rfl ?_
  refine V.iconst hc dL_due_1 ?_
  refine V.aload_n (t := 11) hc dL_due_2 rfl rfl ?_
  refine V.iload_n hc dL_due_3 rfl rfl ?_
  refine V.iload_n hc dL_due_4 rfl rfl ?_
  refine V.callVIc hc hxt (qX11_due G l hlf _ _ _ _ _ _ hw) mo_X11_due ml_L_31 (by rfl) rfl rfl (as := [(0, vc), (0, va)]) rfl rfl rfl rfl rfl ⟨Nat.le_of_ble_eq_true rfl, Nat.le_of_ble_eq_true rfl⟩ dL_due_5 (fun k9 g q9 hx => ?_) (fun x g hp => ?_)
  · obtain ⟨hk, hx⟩ := hx
    unfold kA at hk
    subst hk
    refine ⟨Or.inl rfl, 13, ⟨[], _, [], rfl, fun z hz => absurd hz List.not_mem_nil, by decide, by decide, clL_18, rfl⟩, ?_⟩
    refine V.astoreX hc dL_due_13 rfl (lo' := [(21, 0), (0, vc), (0, va), (87, 8), (5, q9)]) rfl ?_
    refine V.iconst hc dL_due_15 ?_
    exact V.xiret hc hr dL_due_16 rfl ⟨by omega, hx⟩
  refine V.i2lN hc dL_due_8 ?_
  refine V.jst hc (by omega) dL_due_9 (fun g1 e1 => ?_)
  subst e1
  refine V.goto hc (tgt := 17) dL_due_10 (by decide) ?_
  refine V.iconst hc dL_due_17 ?_
  exact V.xiret hc hr dL_due_18 rfl ⟨by omega, hp⟩
theorem ml_L_34 : Cond.methodLink RL 34 yX11_together ∈ tblG := tin 1102 (by decide +kernel) (by decide)
theorem mw_L_together : MOw yL_together cL_together 4 [(0, 9, 12, 18)] 3 := ⟨tin 1100 (by decide +kernel) (by decide), tin 99 (by decide +kernel) (by decide), tin 1101 (by decide +kernel) (by decide), by decide +kernel, by decide +kernel⟩
theorem qL_together (G : GG) (l : Launch) (hlf : l.stackTraces = false) (va : Int) (h : HP) (P : Int → HP → Prop) (hw : wX11_together 0 va h (fun x g => P 0 (up g 77 8 0 (nrm x))) (fun k g => kA k ∧ P (ecA k) g)) : CwI l G yL_together cL_together 4 [(0, 9, 12, 18)] 13 1 [(21, 0), (0, va), (87, 8)] h (fun kk g => (0 ≤ kk ∧ kk ≤ 2) ∧ P kk g) := by
  refine CwI.of (lo := [(21, 0), (0, va), (87, 8), (1, 0)]) (by decide) rfl rfl rfl ?_
  intro p e s m args below meth c hc hr hxt
  have hc : VC G p (rmD 13 1) s m args meth c RL cL_together 4 13 := hc
  refine V.aload_n (t := 77) hc dL_together_0 rfl rfl ?_
  refine V.iconst hc dL_together_1 ?_
  refine V.aload_n (t := 11) hc dL_together_2 rfl rfl ?_
  refine V.iload_n hc dL_together_3 rfl rfl ?_
  refine V.callVIc hc hxt (qX11_together G l hlf _ _ _ _ _ hw) mo_X11_together ml_L_34 (by rfl) rfl rfl (as := [(0, va)]) rfl rfl rfl rfl rfl ⟨Nat.le_of_ble_eq_true rfl, Nat.le_of_ble_eq_true rfl⟩ dL_together_4 (fun k9 g q9 hx => ?_) (fun x g hp => ?_)
  · obtain ⟨hk, hx⟩ := hx
    unfold kA at hk
    subst hk
    refine ⟨Or.inl rfl, 12, ⟨[], _, [], rfl, fun z hz => absurd hz List.not_mem_nil, by decide, by decide, clL_18, rfl⟩, ?_⟩
    refine V.astoreX_n hc dL_together_12 rfl rfl (lo' := [(21, 0), (0, va), (87, 8), (5, q9)]) rfl ?_
    refine V.iconst hc dL_together_13 ?_
    exact V.xiret hc hr dL_together_14 rfl ⟨by omega, hx⟩
  refine V.i2lN hc dL_together_7 ?_
  refine V.jst hc (by omega) dL_together_8 (fun g1 e1 => ?_)
  subst e1
  refine V.goto hc (tgt := 15) dL_together_9 (by decide) ?_
  refine V.iconst hc dL_together_15 ?_
  exact V.xiret hc hr dL_together_16 rfl ⟨by omega, hp⟩
theorem ml_L_37 : Cond.methodLink RL 37 yX11_toGrant ∈ tblG := tin 1129 (by decide +kernel) (by decide)
theorem mw_L_toGrant : MOw yL_toGrant cL_toGrant 5 [(0, 10, 13, 13)] 4 := ⟨tin 1127 (by decide +kernel) (by decide), tin 99 (by decide +kernel) (by decide), tin 1128 (by decide +kernel) (by decide), by decide +kernel, by decide +kernel⟩
theorem qL_toGrant (G : GG) (l : Launch) (hlf : l.stackTraces = false) (vb vd : Int) (h : HP) (P : Int → HP → Prop) (hw : wX11_toGrant 0 vb vd h (fun x g => P 0 (up g 77 8 0 (nrm x))) (fun k g => kI k ∧ P (ecI k) g)) : CwI l G yL_toGrant cL_toGrant 5 [(0, 10, 13, 13)] 13 1 [(21, 0), (0, vb), (0, vd), (87, 8)] h (fun kk g => (0 ≤ kk ∧ kk ≤ 2) ∧ P kk g) := by
  refine CwI.of (lo := [(21, 0), (0, vb), (0, vd), (87, 8), (1, 0)]) (by decide) rfl rfl rfl ?_
  intro p e s m args below meth c hc hr hxt
  have hc : VC G p (rmD 13 1) s m args meth c RL cL_toGrant 5 13 := hc
  refine V.aload_n (t := 77) hc dL_toGrant_0 rfl rfl ?_
  refine V.iconst hc dL_toGrant_1 ?_
  refine V.aload_n (t := 11) hc dL_toGrant_2 rfl rfl ?_
  refine V.iload_n hc dL_toGrant_3 rfl rfl ?_
  refine V.iload_n hc dL_toGrant_4 rfl rfl ?_
  refine V.callVIc hc hxt (qX11_toGrant G l hlf _ _ _ _ _ _ hw) mo_X11_toGrant ml_L_37 (by rfl) rfl rfl (as := [(0, vb), (0, vd)]) rfl rfl rfl rfl rfl ⟨Nat.le_of_ble_eq_true rfl, Nat.le_of_ble_eq_true rfl⟩ dL_toGrant_5 (fun k9 g q9 hx => ?_) (fun x g hp => ?_)
  · obtain ⟨hk, hx⟩ := hx
    unfold kI at hk
    subst hk
    refine ⟨Or.inr rfl, 13, ⟨[], _, [], rfl, fun z hz => absurd hz List.not_mem_nil, by decide, by decide, clL_13, rfl⟩, ?_⟩
    refine V.astoreX hc dL_toGrant_13 rfl (lo' := [(21, 0), (0, vb), (0, vd), (87, 8), (5, q9)]) rfl ?_
    refine V.iconst hc dL_toGrant_15 ?_
    exact V.xiret hc hr dL_toGrant_16 rfl ⟨by omega, hx⟩
  refine V.i2lN hc dL_toGrant_8 ?_
  refine V.jst hc (by omega) dL_toGrant_9 (fun g1 e1 => ?_)
  subst e1
  refine V.goto hc (tgt := 17) dL_toGrant_10 (by decide) ?_
  refine V.iconst hc dL_toGrant_17 ?_
  exact V.xiret hc hr dL_toGrant_18 rfl ⟨by omega, hp⟩
theorem ml_L_40 : Cond.methodLink RL 40 yX11_bound ∈ tblG := tin 1140 (by decide +kernel) (by decide)
theorem mw_L_bound : MOw yL_bound cL_bound 5 [(0, 10, 13, 18), (0, 10, 17, 13)] 4 := ⟨tin 1138 (by decide +kernel) (by decide), tin 99 (by decide +kernel) (by decide), tin 1139 (by decide +kernel) (by decide), by decide +kernel, by decide +kernel⟩
theorem qL_bound (G : GG) (l : Launch) (hlf : l.stackTraces = false) (vc vb : Int) (h : HP) (P : Int → HP → Prop) (hw : wX11_bound 0 vc vb h (fun x g => P 0 (up g 77 8 0 (nrm x))) (fun k g => kB k ∧ P (ecA k) g)) : CwI l G yL_bound cL_bound 5 [(0, 10, 13, 18), (0, 10, 17, 13)] 11 3 [(21, 0), (0, vc), (0, vb), (87, 8)] h (fun kk g => (0 ≤ kk ∧ kk ≤ 2) ∧ P kk g) := by
  refine CwI.of (lo := [(21, 0), (0, vc), (0, vb), (87, 8), (1, 0)]) (by decide) rfl rfl rfl ?_
  intro p e s m args below meth c hc hr hxt
  have hc : VC G p (rmD 11 3) s m args meth c RL cL_bound 5 11 := hc
  refine V.aload_n (t := 77) hc dL_bound_0 rfl rfl ?_
  refine V.iconst hc dL_bound_1 ?_
  refine V.aload_n (t := 11) hc dL_bound_2 rfl rfl ?_
  refine V.iload_n hc dL_bound_3 rfl rfl ?_
  refine V.iload_n hc dL_bound_4 rfl rfl ?_
  refine V.callVIc hc hxt (qX11_bound G l hlf _ _ _ _ _ _ hw) mo_X11_bound ml_L_40 (by rfl) rfl rfl (as := [(0, vc), (0, vb)]) rfl rfl rfl rfl rfl ⟨Nat.le_of_ble_eq_true rfl, Nat.le_of_ble_eq_true rfl⟩ dL_bound_5 (fun k9 g q9 hx => ?_) (fun x g hp => ?_)
  · obtain ⟨hk, hx⟩ := hx
    unfold kB at hk
    rcases hk with hk | hk
    · subst hk
      refine ⟨Or.inl rfl, 13, ⟨[], _, _, rfl, fun z hz => absurd hz List.not_mem_nil, by decide, by decide, clL_18, rfl⟩, ?_⟩
      refine V.astoreX hc dL_bound_13 rfl (lo' := [(21, 0), (0, vc), (0, vb), (87, 8), (5, q9)]) rfl ?_
      refine V.iconst hc dL_bound_15 ?_
      exact V.xiret hc hr dL_bound_16 rfl ⟨by omega, hx⟩
    · subst hk
      refine ⟨Or.inr rfl, 17, ⟨[⟨0, 10, 13, 18⟩], _, [], rfl, fun z hz => ?_, by decide, by decide, clL_13, rfl⟩, ?_⟩
      · rw [List.mem_singleton.mp hz]
        exact ⟨rfl, by decide, clL_18⟩
      · refine V.astoreX hc dL_bound_17 rfl (lo' := [(21, 0), (0, vc), (0, vb), (87, 8), (5, q9)]) rfl ?_
        refine V.iconst hc dL_bound_19 ?_
        exact V.xiret hc hr dL_bound_20 rfl ⟨by omega, hx⟩
  refine V.i2lN hc dL_bound_8 ?_
  refine V.jst hc (by omega) dL_bound_9 (fun g1 e1 => ?_)
  subst e1
  refine V.goto hc (tgt := 21) dL_bound_10 (by decide) ?_
  refine V.iconst hc dL_bound_21 ?_
  exact V.xiret hc hr dL_bound_22 rfl ⟨by omega, hp⟩
theorem ml_L_43 : Cond.methodLink RL 43 yX11_then ∈ tblG := tin 1154 (by decide +kernel) (by decide)
theorem mw_L_then : MOw yL_then cL_then 6 [(0, 12, 15, 18), (0, 12, 19, 13)] 5 := ⟨tin 1152 (by decide +kernel) (by decide), tin 99 (by decide +kernel) (by decide), tin 1153 (by decide +kernel) (by decide), by decide +kernel, by decide +kernel⟩
theorem qL_then (G : GG) (l : Launch) (hlf : l.stackTraces = false) (vc vu va : Int) (h : HP) (P : Int → HP → Prop) (hw : wX11_then 0 vc vu va h (fun x g => P 0 (up g 77 8 0 (nrm x))) (fun k g => kB k ∧ P (ecA k) g)) : CwI l G yL_then cL_then 6 [(0, 12, 15, 18), (0, 12, 19, 13)] 15 3 [(21, 0), (0, vc), (0, vu), (0, va), (87, 8)] h (fun kk g => (0 ≤ kk ∧ kk ≤ 2) ∧ P kk g) := by
  refine CwI.of (lo := [(21, 0), (0, vc), (0, vu), (0, va), (87, 8), (1, 0)]) (by decide) rfl rfl rfl ?_
  intro p e s m args below meth c hc hr hxt
  have hc : VC G p (rmD 15 3) s m args meth c RL cL_then 6 15 := hc
  refine V.aload (t := 77) hc dL_then_0 rfl ?_
  refine V.iconst hc dL_then_2 ?_
  refine V.aload_n (t := 11) hc dL_then_3 rfl rfl ?_
  refine V.iload_n hc dL_then_4 rfl rfl ?_
  refine V.iload_n hc dL_then_5 rfl rfl ?_
  refine V.iload_n hc dL_then_6 rfl rfl ?_
  refine V.callVIc hc hxt (qX11_then G l hlf _ _ _ _ _ _ _ hw) mo_X11_then ml_L_43 (by rfl) rfl rfl (as := [(0, vc), (0, vu), (0, va)]) rfl rfl rfl rfl rfl ⟨Nat.le_of_ble_eq_true rfl, Nat.le_of_ble_eq_true rfl⟩ dL_then_7 (fun k9 g q9 hx => ?_) (fun x g hp => ?_)
  · obtain ⟨hk, hx⟩ := hx
    unfold kB at hk
    rcases hk with hk | hk
    · subst hk
      refine ⟨Or.inl rfl, 15, ⟨[], _, _, rfl, fun z hz => absurd hz List.not_mem_nil, by decide, by decide, clL_18, rfl⟩, ?_⟩
      refine V.astoreX hc dL_then_15 rfl (lo' := [(21, 0), (0, vc), (0, vu), (0, va), (87, 8), (5, q9)]) rfl ?_
      refine V.iconst hc dL_then_17 ?_
      exact V.xiret hc hr dL_then_18 rfl ⟨by omega, hx⟩
    · subst hk
      refine ⟨Or.inr rfl, 19, ⟨[⟨0, 12, 15, 18⟩], _, [], rfl, fun z hz => ?_, by decide, by decide, clL_13, rfl⟩, ?_⟩
      · rw [List.mem_singleton.mp hz]
        exact ⟨rfl, by decide, clL_18⟩
      · refine V.astoreX hc dL_then_19 rfl (lo' := [(21, 0), (0, vc), (0, vu), (0, va), (87, 8), (5, q9)]) rfl ?_
        refine V.iconst hc dL_then_21 ?_
        exact V.xiret hc hr dL_then_22 rfl ⟨by omega, hx⟩
  refine V.i2lN hc dL_then_10 ?_
  refine V.jst hc (by omega) dL_then_11 (fun g1 e1 => ?_)
  subst e1
  refine V.goto hc (tgt := 23) dL_then_12 (by decide) ?_
  refine V.iconst hc dL_then_23 ?_
  exact V.xiret hc hr dL_then_24 rfl ⟨by omega, hp⟩
theorem ml_L_46 : Cond.methodLink RL 46 yX11_next ∈ tblG := tin 1169 (by decide +kernel) (by decide)
theorem mw_L_next : MOw yL_next cL_next 5 [(0, 10, 13, 18), (0, 10, 17, 13)] 4 := ⟨tin 1167 (by decide +kernel) (by decide), tin 99 (by decide +kernel) (by decide), tin 1168 (by decide +kernel) (by decide), by decide +kernel, by decide +kernel⟩
theorem qL_next (G : GG) (l : Launch) (hlf : l.stackTraces = false) (vi va : Int) (h : HP) (P : Int → HP → Prop) (hw : wX11_next 0 vi va h (fun x g => P 0 (up g 77 8 0 (nrm x))) (fun k g => kB k ∧ P (ecA k) g)) : CwI l G yL_next cL_next 5 [(0, 10, 13, 18), (0, 10, 17, 13)] 14 2 [(21, 0), (0, vi), (0, va), (87, 8)] h (fun kk g => (0 ≤ kk ∧ kk ≤ 2) ∧ P kk g) := by
  refine CwI.of (lo := [(21, 0), (0, vi), (0, va), (87, 8), (1, 0)]) (by decide) rfl rfl rfl ?_
  intro p e s m args below meth c hc hr hxt
  have hc : VC G p (rmD 14 2) s m args meth c RL cL_next 5 14 := hc
  refine V.aload_n (t := 77) hc dL_next_0 rfl rfl ?_
  refine V.iconst hc dL_next_1 ?_
  refine V.aload_n (t := 11) hc dL_next_2 rfl rfl ?_
  refine V.iload_n hc dL_next_3 rfl rfl ?_
  refine V.iload_n hc dL_next_4 rfl rfl ?_
  refine V.callVIc hc hxt (qX11_next G l hlf _ _ _ _ _ _ hw) mo_X11_next ml_L_46 (by rfl) rfl rfl (as := [(0, vi), (0, va)]) rfl rfl rfl rfl rfl ⟨Nat.le_of_ble_eq_true rfl, Nat.le_of_ble_eq_true rfl⟩ dL_next_5 (fun k9 g q9 hx => ?_) (fun x g hp => ?_)
  · obtain ⟨hk, hx⟩ := hx
    unfold kB at hk
    rcases hk with hk | hk
    · subst hk
      refine ⟨Or.inl rfl, 13, ⟨[], _, _, rfl, fun z hz => absurd hz List.not_mem_nil, by decide, by decide, clL_18, rfl⟩, ?_⟩
      refine V.astoreX hc dL_next_13 rfl (lo' := [(21, 0), (0, vi), (0, va), (87, 8), (5, q9)]) rfl ?_
      refine V.iconst hc dL_next_15 ?_
      exact V.xiret hc hr dL_next_16 rfl ⟨by omega, hx⟩
    · subst hk
      refine ⟨Or.inr rfl, 17, ⟨[⟨0, 10, 13, 18⟩], _, [], rfl, fun z hz => ?_, by decide, by decide, clL_13, rfl⟩, ?_⟩
      · rw [List.mem_singleton.mp hz]
        exact ⟨rfl, by decide, clL_18⟩
      · refine V.astoreX hc dL_next_17 rfl (lo' := [(21, 0), (0, vi), (0, va), (87, 8), (5, q9)]) rfl ?_
        refine V.iconst hc dL_next_19 ?_
        exact V.xiret hc hr dL_next_20 rfl ⟨by omega, hx⟩
  refine V.i2lN hc dL_next_8 ?_
  refine V.jst hc (by omega) dL_next_9 (fun g1 e1 => ?_)
  subst e1
  refine V.goto hc (tgt := 21) dL_next_10 (by decide) ?_
  refine V.iconst hc dL_next_21 ?_
  exact V.xiret hc hr dL_next_22 rfl ⟨by omega, hp⟩
theorem ml_L_49 : Cond.methodLink RL 49 yX11_waits ∈ tblG := tin 1181 (by decide +kernel) (by decide)
theorem mw_L_waits : MOw yL_waits cL_waits 4 [(0, 9, 12, 18)] 3 := ⟨tin 1179 (by decide +kernel) (by decide), tin 99 (by decide +kernel) (by decide), tin 1180 (by decide +kernel) (by decide), by decide +kernel, by decide +kernel⟩
theorem qL_waits (G : GG) (l : Launch) (hlf : l.stackTraces = false) (vc : Int) (h : HP) (P : Int → HP → Prop) (hw : wX11_waits 0 vc h (fun x g => P 0 (up g 77 8 0 (nrm x))) (fun k g => kA k ∧ P (ecA k) g)) : CwI l G yL_waits cL_waits 4 [(0, 9, 12, 18)] 15 1 [(21, 0), (0, vc), (87, 8)] h (fun kk g => (0 ≤ kk ∧ kk ≤ 2) ∧ P kk g) := by
  refine CwI.of (lo := [(21, 0), (0, vc), (87, 8), (1, 0)]) (by decide) rfl rfl rfl ?_
  intro p e s m args below meth c hc hr hxt
  have hc : VC G p (rmD 15 1) s m args meth c RL cL_waits 4 15 := hc
  refine V.aload_n (t := 77) hc dL_waits_0 rfl rfl ?_
  refine V.iconst hc dL_waits_1 ?_
  refine V.aload_n (t := 11) hc dL_waits_2 rfl rfl ?_
  refine V.iload_n hc dL_waits_3 rfl rfl ?_
  refine V.callVIc hc hxt (qX11_waits G l hlf _ _ _ _ _ hw) mo_X11_waits ml_L_49 (by rfl) rfl rfl (as := [(0, vc)]) rfl rfl rfl rfl rfl ⟨Nat.le_of_ble_eq_true rfl, Nat.le_of_ble_eq_true rfl⟩ dL_waits_4 (fun k9 g q9 hx => ?_) (fun x g hp => ?_)
  · obtain ⟨hk, hx⟩ := hx
    unfold kA at hk
    subst hk
    refine ⟨Or.inl rfl, 12, ⟨[], _, [], rfl, fun z hz => absurd hz List.not_mem_nil, by decide, by decide, clL_18, rfl⟩, ?_⟩
    refine V.astoreX_n hc dL_waits_12 rfl rfl (lo' := [(21, 0), (0, vc), (87, 8), (5, q9)]) rfl ?_
    refine V.iconst hc dL_waits_13 ?_
    exact V.xiret hc hr dL_waits_14 rfl ⟨by omega, hx⟩
  refine V.i2lN hc dL_waits_7 ?_
  refine V.jst hc (by omega) dL_waits_8 (fun g1 e1 => ?_)
  subst e1
  refine V.goto hc (tgt := 15) dL_waits_9 (by decide) ?_
  refine V.iconst hc dL_waits_15 ?_
  exact V.xiret hc hr dL_waits_16 rfl ⟨by omega, hp⟩
theorem ml_L_52 : Cond.methodLink RL 52 yX11_longest ∈ tblG := tin 1200 (by decide +kernel) (by decide)
theorem mw_L_longest : MOw yL_longest cL_longest 5 [(0, 10, 13, 18), (0, 10, 17, 13)] 4 := ⟨tin 1198 (by decide +kernel) (by decide), tin 99 (by decide +kernel) (by decide), tin 1199 (by decide +kernel) (by decide), by decide +kernel, by decide +kernel⟩
theorem qL_longest (G : GG) (l : Launch) (hlf : l.stackTraces = false) (vc vn : Int) (h : HP) (P : Int → HP → Prop) (hw : wX11_longest 0 vc vn h (fun x g => P 0 (up g 77 8 0 (nrm x))) (fun k g => kB k ∧ P (ecA k) g)) : CwI l G yL_longest cL_longest 5 [(0, 10, 13, 18), (0, 10, 17, 13)] 14 2 [(21, 0), (0, vc), (0, vn), (87, 8)] h (fun kk g => (0 ≤ kk ∧ kk ≤ 2) ∧ P kk g) := by
  refine CwI.of (lo := [(21, 0), (0, vc), (0, vn), (87, 8), (1, 0)]) (by decide) rfl rfl rfl ?_
  intro p e s m args below meth c hc hr hxt
  have hc : VC G p (rmD 14 2) s m args meth c RL cL_longest 5 14 := hc
  refine V.aload_n (t := 77) hc dL_longest_0 rfl rfl ?_
  refine V.iconst hc dL_longest_1 ?_
  refine V.aload_n (t := 11) hc dL_longest_2 rfl rfl ?_
  refine V.iload_n hc dL_longest_3 rfl rfl ?_
  refine V.iload_n hc dL_longest_4 rfl rfl ?_
  refine V.callVIc hc hxt (qX11_longest G l hlf _ _ _ _ _ _ hw) mo_X11_longest ml_L_52 (by rfl) rfl rfl (as := [(0, vc), (0, vn)]) rfl rfl rfl rfl rfl ⟨Nat.le_of_ble_eq_true rfl, Nat.le_of_ble_eq_true rfl⟩ dL_longest_5 (fun k9 g q9 hx => ?_) (fun x g hp => ?_)
  · obtain ⟨hk, hx⟩ := hx
    unfold kB at hk
    rcases hk with hk | hk
    · subst hk
      refine ⟨Or.inl rfl, 13, ⟨[], _, _, rfl, fun z hz => absurd hz List.not_mem_nil, by decide, by decide, clL_18, rfl⟩, ?_⟩
      refine V.astoreX hc dL_longest_13 rfl (lo' := [(21, 0), (0, vc), (0, vn), (87, 8), (5, q9)]) rfl ?_
      refine V.iconst hc dL_longest_15 ?_
      exact V.xiret hc hr dL_longest_16 rfl ⟨by omega, hx⟩
    · subst hk
      refine ⟨Or.inr rfl, 17, ⟨[⟨0, 10, 13, 18⟩], _, [], rfl, fun z hz => ?_, by decide, by decide, clL_13, rfl⟩, ?_⟩
      · rw [List.mem_singleton.mp hz]
        exact ⟨rfl, by decide, clL_18⟩
      · refine V.astoreX hc dL_longest_17 rfl (lo' := [(21, 0), (0, vc), (0, vn), (87, 8), (5, q9)]) rfl ?_
        refine V.iconst hc dL_longest_19 ?_
        exact V.xiret hc hr dL_longest_20 rfl ⟨by omega, hx⟩
  refine V.i2lN hc dL_longest_8 ?_
  refine V.jst hc (by omega) dL_longest_9 (fun g1 e1 => ?_)
  subst e1
  refine V.goto hc (tgt := 21) dL_longest_10 (by decide) ?_
  refine V.iconst hc dL_longest_21 ?_
  exact V.xiret hc hr dL_longest_22 rfl ⟨by omega, hp⟩
theorem ml_L_55 : Cond.methodLink RL 55 yX11_toShare ∈ tblG := tin 1215 (by decide +kernel) (by decide)
theorem mw_L_toShare : MOw yL_toShare cL_toShare 6 [(0, 12, 15, 18), (0, 12, 19, 13)] 5 := ⟨tin 1213 (by decide +kernel) (by decide), tin 99 (by decide +kernel) (by decide), tin 1214 (by decide +kernel) (by decide), by decide +kernel, by decide +kernel⟩
theorem qL_toShare (G : GG) (l : Launch) (hlf : l.stackTraces = false) (vc vb vn : Int) (h : HP) (P : Int → HP → Prop) (hw : wX11_toShare 0 vc vb vn h (fun x g => P 0 (up g 77 8 0 (nrm x))) (fun k g => kB k ∧ P (ecA k) g)) : CwI l G yL_toShare cL_toShare 6 [(0, 12, 15, 18), (0, 12, 19, 13)] 15 3 [(21, 0), (0, vc), (0, vb), (0, vn), (87, 8)] h (fun kk g => (0 ≤ kk ∧ kk ≤ 2) ∧ P kk g) := by
  refine CwI.of (lo := [(21, 0), (0, vc), (0, vb), (0, vn), (87, 8), (1, 0)]) (by decide) rfl rfl rfl ?_
  intro p e s m args below meth c hc hr hxt
  have hc : VC G p (rmD 15 3) s m args meth c RL cL_toShare 6 15 := hc
  refine V.aload (t := 77) hc dL_toShare_0 rfl ?_
  refine V.iconst hc dL_toShare_2 ?_
  refine V.aload_n (t := 11) hc dL_toShare_3 rfl rfl ?_
  refine V.iload_n hc dL_toShare_4 rfl rfl ?_
  refine V.iload_n hc dL_toShare_5 rfl rfl ?_
  refine V.iload_n hc dL_toShare_6 rfl rfl ?_
  refine V.callVIc hc hxt (qX11_toShare G l hlf _ _ _ _ _ _ _ hw) mo_X11_toShare ml_L_55 (by rfl) rfl rfl (as := [(0, vc), (0, vb), (0, vn)]) rfl rfl rfl rfl rfl ⟨Nat.le_of_ble_eq_true rfl, Nat.le_of_ble_eq_true rfl⟩ dL_toShare_7 (fun k9 g q9 hx => ?_) (fun x g hp => ?_)
  · obtain ⟨hk, hx⟩ := hx
    unfold kB at hk
    rcases hk with hk | hk
    · subst hk
      refine ⟨Or.inl rfl, 15, ⟨[], _, _, rfl, fun z hz => absurd hz List.not_mem_nil, by decide, by decide, clL_18, rfl⟩, ?_⟩
      refine V.astoreX hc dL_toShare_15 rfl (lo' := [(21, 0), (0, vc), (0, vb), (0, vn), (87, 8), (5, q9)]) rfl ?_
      refine V.iconst hc dL_toShare_17 ?_
      exact V.xiret hc hr dL_toShare_18 rfl ⟨by omega, hx⟩
    · subst hk
      refine ⟨Or.inr rfl, 19, ⟨[⟨0, 12, 15, 18⟩], _, [], rfl, fun z hz => ?_, by decide, by decide, clL_13, rfl⟩, ?_⟩
      · rw [List.mem_singleton.mp hz]
        exact ⟨rfl, by decide, clL_18⟩
      · refine V.astoreX hc dL_toShare_19 rfl (lo' := [(21, 0), (0, vc), (0, vb), (0, vn), (87, 8), (5, q9)]) rfl ?_
        refine V.iconst hc dL_toShare_21 ?_
        exact V.xiret hc hr dL_toShare_22 rfl ⟨by omega, hx⟩
  refine V.i2lN hc dL_toShare_10 ?_
  refine V.jst hc (by omega) dL_toShare_11 (fun g1 e1 => ?_)
  subst e1
  refine V.goto hc (tgt := 23) dL_toShare_12 (by decide) ?_
  refine V.iconst hc dL_toShare_23 ?_
  exact V.xiret hc hr dL_toShare_24 rfl ⟨by omega, hp⟩
theorem ml_L_58 : Cond.methodLink RL 58 yX11_toCap ∈ tblG := tin 1227 (by decide +kernel) (by decide)
theorem mw_L_toCap : MOw yL_toCap cL_toCap 6 [(0, 12, 15, 18), (0, 12, 19, 13)] 5 := ⟨tin 1225 (by decide +kernel) (by decide), tin 99 (by decide +kernel) (by decide), tin 1226 (by decide +kernel) (by decide), by decide +kernel, by decide +kernel⟩
theorem qL_toCap (G : GG) (l : Launch) (hlf : l.stackTraces = false) (vc vl vn : Int) (h : HP) (P : Int → HP → Prop) (hw : wX11_toCap 0 vc vl vn h (fun x g => P 0 (up g 77 8 0 (nrm x))) (fun k g => kB k ∧ P (ecA k) g)) : CwI l G yL_toCap cL_toCap 6 [(0, 12, 15, 18), (0, 12, 19, 13)] 15 3 [(21, 0), (0, vc), (0, vl), (0, vn), (87, 8)] h (fun kk g => (0 ≤ kk ∧ kk ≤ 2) ∧ P kk g) := by
  refine CwI.of (lo := [(21, 0), (0, vc), (0, vl), (0, vn), (87, 8), (1, 0)]) (by decide) rfl rfl rfl ?_
  intro p e s m args below meth c hc hr hxt
  have hc : VC G p (rmD 15 3) s m args meth c RL cL_toCap 6 15 := hc
  refine V.aload (t := 77) hc dL_toCap_0 rfl ?_
  refine V.iconst hc dL_toCap_2 ?_
  refine V.aload_n (t := 11) hc dL_toCap_3 rfl rfl ?_
  refine V.iload_n hc dL_toCap_4 rfl rfl ?_
  refine V.iload_n hc dL_toCap_5 rfl rfl ?_
  refine V.iload_n hc dL_toCap_6 rfl rfl ?_
  refine V.callVIc hc hxt (qX11_toCap G l hlf _ _ _ _ _ _ _ hw) mo_X11_toCap ml_L_58 (by rfl) rfl rfl (as := [(0, vc), (0, vl), (0, vn)]) rfl rfl rfl rfl rfl ⟨Nat.le_of_ble_eq_true rfl, Nat.le_of_ble_eq_true rfl⟩ dL_toCap_7 (fun k9 g q9 hx => ?_) (fun x g hp => ?_)
  · obtain ⟨hk, hx⟩ := hx
    unfold kB at hk
    rcases hk with hk | hk
    · subst hk
      refine ⟨Or.inl rfl, 15, ⟨[], _, _, rfl, fun z hz => absurd hz List.not_mem_nil, by decide, by decide, clL_18, rfl⟩, ?_⟩
      refine V.astoreX hc dL_toCap_15 rfl (lo' := [(21, 0), (0, vc), (0, vl), (0, vn), (87, 8), (5, q9)]) rfl ?_
      refine V.iconst hc dL_toCap_17 ?_
      exact V.xiret hc hr dL_toCap_18 rfl ⟨by omega, hx⟩
    · subst hk
      refine ⟨Or.inr rfl, 19, ⟨[⟨0, 12, 15, 18⟩], _, [], rfl, fun z hz => ?_, by decide, by decide, clL_13, rfl⟩, ?_⟩
      · rw [List.mem_singleton.mp hz]
        exact ⟨rfl, by decide, clL_18⟩
      · refine V.astoreX hc dL_toCap_19 rfl (lo' := [(21, 0), (0, vc), (0, vl), (0, vn), (87, 8), (5, q9)]) rfl ?_
        refine V.iconst hc dL_toCap_21 ?_
        exact V.xiret hc hr dL_toCap_22 rfl ⟨by omega, hx⟩
  refine V.i2lN hc dL_toCap_10 ?_
  refine V.jst hc (by omega) dL_toCap_11 (fun g1 e1 => ?_)
  subst e1
  refine V.goto hc (tgt := 23) dL_toCap_12 (by decide) ?_
  refine V.iconst hc dL_toCap_23 ?_
  exact V.xiret hc hr dL_toCap_24 rfl ⟨by omega, hp⟩
theorem ml_L_61 : Cond.methodLink RL 61 yX11_blocked ∈ tblG := tin 1238 (by decide +kernel) (by decide)
theorem mw_L_blocked : MOw yL_blocked cL_blocked 5 [(0, 10, 13, 18)] 4 := ⟨tin 1236 (by decide +kernel) (by decide), tin 99 (by decide +kernel) (by decide), tin 1237 (by decide +kernel) (by decide), by decide +kernel, by decide +kernel⟩
theorem qL_blocked (G : GG) (l : Launch) (hlf : l.stackTraces = false) (vc vb : Int) (h : HP) (P : Int → HP → Prop) (hw : wX11_blocked 0 vc vb h (fun x g => P 0 (up g 77 8 0 (nrm x))) (fun k g => kA k ∧ P (ecA k) g)) : CwI l G yL_blocked cL_blocked 5 [(0, 10, 13, 18)] 14 2 [(21, 0), (0, vc), (0, vb), (87, 8)] h (fun kk g => (0 ≤ kk ∧ kk ≤ 2) ∧ P kk g) := by
  refine CwI.of (lo := [(21, 0), (0, vc), (0, vb), (87, 8), (1, 0)]) (by decide) rfl rfl rfl ?_
  intro p e s m args below meth c hc hr hxt
  have hc : VC G p (rmD 14 2) s m args meth c RL cL_blocked 5 14 := hc
  refine V.aload_n (t := 77) hc dL_blocked_0 rfl rfl ?_
  refine V.iconst hc dL_blocked_1 ?_
  refine V.aload_n (t := 11) hc dL_blocked_2 rfl rfl ?_
  refine V.iload_n hc dL_blocked_3 rfl rfl ?_
  refine V.iload_n hc dL_blocked_4 rfl rfl ?_
  refine V.callVIc hc hxt (qX11_blocked G l hlf _ _ _ _ _ _ hw) mo_X11_blocked ml_L_61 (by rfl) rfl rfl (as := [(0, vc), (0, vb)]) rfl rfl rfl rfl rfl ⟨Nat.le_of_ble_eq_true rfl, Nat.le_of_ble_eq_true rfl⟩ dL_blocked_5 (fun k9 g q9 hx => ?_) (fun x g hp => ?_)
  · obtain ⟨hk, hx⟩ := hx
    unfold kA at hk
    subst hk
    refine ⟨Or.inl rfl, 13, ⟨[], _, [], rfl, fun z hz => absurd hz List.not_mem_nil, by decide, by decide, clL_18, rfl⟩, ?_⟩
    refine V.astoreX hc dL_blocked_13 rfl (lo' := [(21, 0), (0, vc), (0, vb), (87, 8), (5, q9)]) rfl ?_
    refine V.iconst hc dL_blocked_15 ?_
    exact V.xiret hc hr dL_blocked_16 rfl ⟨by omega, hx⟩
  refine V.i2lN hc dL_blocked_8 ?_
  refine V.jst hc (by omega) dL_blocked_9 (fun g1 e1 => ?_)
  subst e1
  refine V.goto hc (tgt := 17) dL_blocked_10 (by decide) ?_
  refine V.iconst hc dL_blocked_17 ?_
  exact V.xiret hc hr dL_blocked_18 rfl ⟨by omega, hp⟩
theorem ml_L_64 : Cond.methodLink RL 64 yX11_spread ∈ tblG := tin 1249 (by decide +kernel) (by decide)
theorem mw_L_spread : MOw yL_spread cL_spread 5 [(0, 10, 13, 18), (0, 10, 17, 13)] 4 := ⟨tin 1247 (by decide +kernel) (by decide), tin 99 (by decide +kernel) (by decide), tin 1248 (by decide +kernel) (by decide), by decide +kernel, by decide +kernel⟩
theorem qL_spread (G : GG) (l : Launch) (hlf : l.stackTraces = false) (vc vn : Int) (h : HP) (P : Int → HP → Prop) (hw : wX11_spread 0 vc vn h (fun x g => P 0 (up g 77 8 0 (nrm x))) (fun k g => kB k ∧ P (ecA k) g)) : CwI l G yL_spread cL_spread 5 [(0, 10, 13, 18), (0, 10, 17, 13)] 14 2 [(21, 0), (0, vc), (0, vn), (87, 8)] h (fun kk g => (0 ≤ kk ∧ kk ≤ 2) ∧ P kk g) := by
  refine CwI.of (lo := [(21, 0), (0, vc), (0, vn), (87, 8), (1, 0)]) (by decide) rfl rfl rfl ?_
  intro p e s m args below meth c hc hr hxt
  have hc : VC G p (rmD 14 2) s m args meth c RL cL_spread 5 14 := hc
  refine V.aload_n (t := 77) hc dL_spread_0 rfl rfl ?_
  refine V.iconst hc dL_spread_1 ?_
  refine V.aload_n (t := 11) hc dL_spread_2 rfl rfl ?_
  refine V.iload_n hc dL_spread_3 rfl rfl ?_
  refine V.iload_n hc dL_spread_4 rfl rfl ?_
  refine V.callVIc hc hxt (qX11_spread G l hlf _ _ _ _ _ _ hw) mo_X11_spread ml_L_64 (by rfl) rfl rfl (as := [(0, vc), (0, vn)]) rfl rfl rfl rfl rfl ⟨Nat.le_of_ble_eq_true rfl, Nat.le_of_ble_eq_true rfl⟩ dL_spread_5 (fun k9 g q9 hx => ?_) (fun x g hp => ?_)
  · obtain ⟨hk, hx⟩ := hx
    unfold kB at hk
    rcases hk with hk | hk
    · subst hk
      refine ⟨Or.inl rfl, 13, ⟨[], _, _, rfl, fun z hz => absurd hz List.not_mem_nil, by decide, by decide, clL_18, rfl⟩, ?_⟩
      refine V.astoreX hc dL_spread_13 rfl (lo' := [(21, 0), (0, vc), (0, vn), (87, 8), (5, q9)]) rfl ?_
      refine V.iconst hc dL_spread_15 ?_
      exact V.xiret hc hr dL_spread_16 rfl ⟨by omega, hx⟩
    · subst hk
      refine ⟨Or.inr rfl, 17, ⟨[⟨0, 10, 13, 18⟩], _, [], rfl, fun z hz => ?_, by decide, by decide, clL_13, rfl⟩, ?_⟩
      · rw [List.mem_singleton.mp hz]
        exact ⟨rfl, by decide, clL_18⟩
      · refine V.astoreX hc dL_spread_17 rfl (lo' := [(21, 0), (0, vc), (0, vn), (87, 8), (5, q9)]) rfl ?_
        refine V.iconst hc dL_spread_19 ?_
        exact V.xiret hc hr dL_spread_20 rfl ⟨by omega, hx⟩
  refine V.i2lN hc dL_spread_8 ?_
  refine V.jst hc (by omega) dL_spread_9 (fun g1 e1 => ?_)
  subst e1
  refine V.goto hc (tgt := 21) dL_spread_10 (by decide) ?_
  refine V.iconst hc dL_spread_21 ?_
  exact V.xiret hc hr dL_spread_22 rfl ⟨by omega, hp⟩
theorem ml_L_67 : Cond.methodLink RL 67 yX11_other ∈ tblG := tin 1264 (by decide +kernel) (by decide)
theorem mw_L_other : MOw yL_other cL_other 4 [(0, 9, 12, 18)] 3 := ⟨tin 1262 (by decide +kernel) (by decide), tin 99 (by decide +kernel) (by decide), tin 1263 (by decide +kernel) (by decide), by decide +kernel, by decide +kernel⟩
theorem qL_other (G : GG) (l : Launch) (hlf : l.stackTraces = false) (va : Int) (h : HP) (P : Int → HP → Prop) (hw : wX11_other 0 va h (fun x g => P 0 (up g 77 8 0 (nrm x))) (fun k g => kA k ∧ P (ecA k) g)) : CwI l G yL_other cL_other 4 [(0, 9, 12, 18)] 16 1 [(21, 0), (0, va), (87, 8)] h (fun kk g => (0 ≤ kk ∧ kk ≤ 2) ∧ P kk g) := by
  refine CwI.of (lo := [(21, 0), (0, va), (87, 8), (1, 0)]) (by decide) rfl rfl rfl ?_
  intro p e s m args below meth c hc hr hxt
  have hc : VC G p (rmD 16 1) s m args meth c RL cL_other 4 16 := hc
  refine V.aload_n (t := 77) hc dL_other_0 rfl rfl ?_
  refine V.iconst hc dL_other_1 ?_
  refine V.aload_n (t := 11) hc dL_other_2 rfl rfl ?_
  refine V.iload_n hc dL_other_3 rfl rfl ?_
  refine V.callVIc hc hxt (qX11_other G l hlf _ _ _ _ _ hw) mo_X11_other ml_L_67 (by rfl) rfl rfl (as := [(0, va)]) rfl rfl rfl rfl rfl ⟨Nat.le_of_ble_eq_true rfl, Nat.le_of_ble_eq_true rfl⟩ dL_other_4 (fun k9 g q9 hx => ?_) (fun x g hp => ?_)
  · obtain ⟨hk, hx⟩ := hx
    unfold kA at hk
    subst hk
    refine ⟨Or.inl rfl, 12, ⟨[], _, [], rfl, fun z hz => absurd hz List.not_mem_nil, by decide, by decide, clL_18, rfl⟩, ?_⟩
    refine V.astoreX_n hc dL_other_12 rfl rfl (lo' := [(21, 0), (0, va), (87, 8), (5, q9)]) rfl ?_
    refine V.iconst hc dL_other_13 ?_
    exact V.xiret hc hr dL_other_14 rfl ⟨by omega, hx⟩
  refine V.i2lN hc dL_other_7 ?_
  refine V.jst hc (by omega) dL_other_8 (fun g1 e1 => ?_)
  subst e1
  refine V.goto hc (tgt := 15) dL_other_9 (by decide) ?_
  refine V.iconst hc dL_other_15 ?_
  exact V.xiret hc hr dL_other_16 rfl ⟨by omega, hp⟩
theorem ml_L_70 : Cond.methodLink RL 70 yX11_look ∈ tblG := tin 1294 (by decide +kernel) (by decide)
theorem mw_L_look : MOw yL_look cL_look 4 [(0, 9, 12, 18)] 3 := ⟨tin 1292 (by decide +kernel) (by decide), tin 99 (by decide +kernel) (by decide), tin 1293 (by decide +kernel) (by decide), by decide +kernel, by decide +kernel⟩
theorem qL_look (G : GG) (l : Launch) (hlf : l.stackTraces = false) (va : Int) (h : HP) (P : Int → HP → Prop) (hw : wX11_look 0 va h (fun x g => P 0 (up g 77 8 0 (nrm x))) (fun k g => kA k ∧ P (ecA k) g)) : CwI l G yL_look cL_look 4 [(0, 9, 12, 18)] 16 1 [(21, 0), (0, va), (87, 8)] h (fun kk g => (0 ≤ kk ∧ kk ≤ 2) ∧ P kk g) := by
  refine CwI.of (lo := [(21, 0), (0, va), (87, 8), (1, 0)]) (by decide) rfl rfl rfl ?_
  intro p e s m args below meth c hc hr hxt
  have hc : VC G p (rmD 16 1) s m args meth c RL cL_look 4 16 := hc
  refine V.aload_n (t := 77) hc dL_look_0 rfl rfl ?_
  refine V.iconst hc dL_look_1 ?_
  refine V.aload_n (t := 11) hc dL_look_2 rfl rfl ?_
  refine V.iload_n hc dL_look_3 rfl rfl ?_
  refine V.callVIc hc hxt (qX11_look G l hlf _ _ _ _ _ hw) mo_X11_look ml_L_70 (by rfl) rfl rfl (as := [(0, va)]) rfl rfl rfl rfl rfl ⟨Nat.le_of_ble_eq_true rfl, Nat.le_of_ble_eq_true rfl⟩ dL_look_4 (fun k9 g q9 hx => ?_) (fun x g hp => ?_)
  · obtain ⟨hk, hx⟩ := hx
    unfold kA at hk
    subst hk
    refine ⟨Or.inl rfl, 12, ⟨[], _, [], rfl, fun z hz => absurd hz List.not_mem_nil, by decide, by decide, clL_18, rfl⟩, ?_⟩
    refine V.astoreX_n hc dL_look_12 rfl rfl (lo' := [(21, 0), (0, va), (87, 8), (5, q9)]) rfl ?_
    refine V.iconst hc dL_look_13 ?_
    exact V.xiret hc hr dL_look_14 rfl ⟨by omega, hx⟩
  refine V.i2lN hc dL_look_7 ?_
  refine V.jst hc (by omega) dL_look_8 (fun g1 e1 => ?_)
  subst e1
  refine V.goto hc (tgt := 15) dL_look_9 (by decide) ?_
  refine V.iconst hc dL_look_15 ?_
  exact V.xiret hc hr dL_look_16 rfl ⟨by omega, hp⟩
theorem ml_L_73 : Cond.methodLink RL 73 yX11_storms ∈ tblG := tin 1309 (by decide +kernel) (by decide)
theorem mw_L_storms : MOw yL_storms cL_storms 7 [(0, 14, 17, 18), (0, 14, 21, 13)] 6 := ⟨tin 1307 (by decide +kernel) (by decide), tin 99 (by decide +kernel) (by decide), tin 1308 (by decide +kernel) (by decide), by decide +kernel, by decide +kernel⟩
theorem qL_storms (G : GG) (l : Launch) (hlf : l.stackTraces = false) (vf vn vtn vmo : Int) (h : HP) (P : Int → HP → Prop) (hw : wX11_storms 0 vf vn vtn vmo h (fun x g => P 0 (up g 77 8 0 (nrm x))) (fun k g => kB k ∧ P (ecA k) g)) : CwI l G yL_storms cL_storms 7 [(0, 14, 17, 18), (0, 14, 21, 13)] 16 3 [(21, 0), (0, vf), (0, vn), (0, vtn), (0, vmo), (87, 8)] h (fun kk g => (0 ≤ kk ∧ kk ≤ 2) ∧ P kk g) := by
  refine CwI.of (lo := [(21, 0), (0, vf), (0, vn), (0, vtn), (0, vmo), (87, 8), (1, 0)]) (by decide) rfl rfl rfl ?_
  intro p e s m args below meth c hc hr hxt
  have hc : VC G p (rmD 16 3) s m args meth c RL cL_storms 7 16 := hc
  refine V.aload (t := 77) hc dL_storms_0 rfl ?_
  refine V.iconst hc dL_storms_2 ?_
  refine V.aload_n (t := 11) hc dL_storms_3 rfl rfl ?_
  refine V.iload_n hc dL_storms_4 rfl rfl ?_
  refine V.iload_n hc dL_storms_5 rfl rfl ?_
  refine V.iload_n hc dL_storms_6 rfl rfl ?_
  refine V.iload hc dL_storms_7 rfl ?_
  refine V.callVIc hc hxt (qX11_storms G l hlf _ _ _ _ _ _ _ _ hw) mo_X11_storms ml_L_73 (by rfl) rfl rfl (as := [(0, vf), (0, vn), (0, vtn), (0, vmo)]) rfl rfl rfl rfl rfl ⟨Nat.le_of_ble_eq_true rfl, Nat.le_of_ble_eq_true rfl⟩ dL_storms_9 (fun k9 g q9 hx => ?_) (fun x g hp => ?_)
  · obtain ⟨hk, hx⟩ := hx
    unfold kB at hk
    rcases hk with hk | hk
    · subst hk
      refine ⟨Or.inl rfl, 17, ⟨[], _, _, rfl, fun z hz => absurd hz List.not_mem_nil, by decide, by decide, clL_18, rfl⟩, ?_⟩
      refine V.astoreX hc dL_storms_17 rfl (lo' := [(21, 0), (0, vf), (0, vn), (0, vtn), (0, vmo), (87, 8), (5, q9)]) rfl ?_
      refine V.iconst hc dL_storms_19 ?_
      exact V.xiret hc hr dL_storms_20 rfl ⟨by omega, hx⟩
    · subst hk
      refine ⟨Or.inr rfl, 21, ⟨[⟨0, 14, 17, 18⟩], _, [], rfl, fun z hz => ?_, by decide, by decide, clL_13, rfl⟩, ?_⟩
      · rw [List.mem_singleton.mp hz]
        exact ⟨rfl, by decide, clL_18⟩
      · refine V.astoreX hc dL_storms_21 rfl (lo' := [(21, 0), (0, vf), (0, vn), (0, vtn), (0, vmo), (87, 8), (5, q9)]) rfl ?_
        refine V.iconst hc dL_storms_23 ?_
        exact V.xiret hc hr dL_storms_24 rfl ⟨by omega, hx⟩
  refine V.i2lN hc dL_storms_12 ?_
  refine V.jst hc (by omega) dL_storms_13 (fun g1 e1 => ?_)
  subst e1
  refine V.goto hc (tgt := 25) dL_storms_14 (by decide) ?_
  refine V.iconst hc dL_storms_25 ?_
  exact V.xiret hc hr dL_storms_26 rfl ⟨by omega, hp⟩
theorem ml_L_77 : Cond.methodLink RL 77 yX11_years ∈ tblG := tin 1327 (by decide +kernel) (by decide)
theorem mw_L_years : MOw yL_years cL_years 6 [(0, 12, 15, 18), (0, 12, 19, 13)] 5 := ⟨tin 1325 (by decide +kernel) (by decide), tin 99 (by decide +kernel) (by decide), tin 1326 (by decide +kernel) (by decide), by decide +kernel, by decide +kernel⟩
theorem qL_years (G : GG) (l : Launch) (hlf : l.stackTraces = false) (vsd vn va : Int) (h : HP) (P : Int → HP → Prop) (hw : wX11_years 0 vsd vn va h (fun x g => P 0 (up g 77 8 0 (nrm x))) (fun k g => kB k ∧ P (ecA k) g)) : CwI l G yL_years cL_years 6 [(0, 12, 15, 18), (0, 12, 19, 13)] 15 2 [(21, 0), (0, vsd), (0, vn), (0, va), (87, 8)] h (fun kk g => (0 ≤ kk ∧ kk ≤ 2) ∧ P kk g) := by
  refine CwI.of (lo := [(21, 0), (0, vsd), (0, vn), (0, va), (87, 8), (1, 0)]) (by decide) rfl rfl rfl ?_
  intro p e s m args below meth c hc hr hxt
  have hc : VC G p (rmD 15 2) s m args meth c RL cL_years 6 15 := hc
  refine V.aload (t := 77) hc dL_years_0 rfl ?_
  refine V.iconst hc dL_years_2 ?_
  refine V.aload_n (t := 11) hc dL_years_3 rfl rfl ?_
  refine V.iload_n hc dL_years_4 rfl rfl ?_
  refine V.iload_n hc dL_years_5 rfl rfl ?_
  refine V.iload_n hc dL_years_6 rfl rfl ?_
  refine V.callVIc hc hxt (qX11_years G l hlf _ _ _ _ _ _ _ hw) mo_X11_years ml_L_77 (by rfl) rfl rfl (as := [(0, vsd), (0, vn), (0, va)]) rfl rfl rfl rfl rfl ⟨Nat.le_of_ble_eq_true rfl, Nat.le_of_ble_eq_true rfl⟩ dL_years_7 (fun k9 g q9 hx => ?_) (fun x g hp => ?_)
  · obtain ⟨hk, hx⟩ := hx
    unfold kB at hk
    rcases hk with hk | hk
    · subst hk
      refine ⟨Or.inl rfl, 15, ⟨[], _, _, rfl, fun z hz => absurd hz List.not_mem_nil, by decide, by decide, clL_18, rfl⟩, ?_⟩
      refine V.astoreX hc dL_years_15 rfl (lo' := [(21, 0), (0, vsd), (0, vn), (0, va), (87, 8), (5, q9)]) rfl ?_
      refine V.iconst hc dL_years_17 ?_
      exact V.xiret hc hr dL_years_18 rfl ⟨by omega, hx⟩
    · subst hk
      refine ⟨Or.inr rfl, 19, ⟨[⟨0, 12, 15, 18⟩], _, [], rfl, fun z hz => ?_, by decide, by decide, clL_13, rfl⟩, ?_⟩
      · rw [List.mem_singleton.mp hz]
        exact ⟨rfl, by decide, clL_18⟩
      · refine V.astoreX hc dL_years_19 rfl (lo' := [(21, 0), (0, vsd), (0, vn), (0, va), (87, 8), (5, q9)]) rfl ?_
        refine V.iconst hc dL_years_21 ?_
        exact V.xiret hc hr dL_years_22 rfl ⟨by omega, hx⟩
  refine V.i2lN hc dL_years_10 ?_
  refine V.jst hc (by omega) dL_years_11 (fun g1 e1 => ?_)
  subst e1
  refine V.goto hc (tgt := 23) dL_years_12 (by decide) ?_
  refine V.iconst hc dL_years_23 ?_
  exact V.xiret hc hr dL_years_24 rfl ⟨by omega, hp⟩
theorem ml_L_80 : Cond.methodLink RL 80 yX11_told ∈ tblG := tin 1359 (by decide +kernel) (by decide)
theorem mw_L_told : MOw yL_told cL_told 5 [(0, 10, 13, 18)] 4 := ⟨tin 1357 (by decide +kernel) (by decide), tin 99 (by decide +kernel) (by decide), tin 1358 (by decide +kernel) (by decide), by decide +kernel, by decide +kernel⟩
theorem qL_told (G : GG) (l : Launch) (hlf : l.stackTraces = false) (vc vi : Int) (h : HP) (P : Int → HP → Prop) (hw : wX11_told 0 vc vi h (fun x g => P 0 (up g 77 8 0 (nrm x))) (fun k g => kA k ∧ P (ecA k) g)) : CwI l G yL_told cL_told 5 [(0, 10, 13, 18)] 12 2 [(21, 0), (0, vc), (0, vi), (87, 8)] h (fun kk g => (0 ≤ kk ∧ kk ≤ 2) ∧ P kk g) := by
  refine CwI.of (lo := [(21, 0), (0, vc), (0, vi), (87, 8), (1, 0)]) (by decide) rfl rfl rfl ?_
  intro p e s m args below meth c hc hr hxt
  have hc : VC G p (rmD 12 2) s m args meth c RL cL_told 5 12 := hc
  refine V.aload_n (t := 77) hc dL_told_0 rfl rfl ?_
  refine V.iconst hc dL_told_1 ?_
  refine V.aload_n (t := 11) hc dL_told_2 rfl rfl ?_
  refine V.iload_n hc dL_told_3 rfl rfl ?_
  refine V.iload_n hc dL_told_4 rfl rfl ?_
  refine V.callVIc hc hxt (qX11_told G l hlf _ _ _ _ _ _ hw) mo_X11_told ml_L_80 (by rfl) rfl rfl (as := [(0, vc), (0, vi)]) rfl rfl rfl rfl rfl ⟨Nat.le_of_ble_eq_true rfl, Nat.le_of_ble_eq_true rfl⟩ dL_told_5 (fun k9 g q9 hx => ?_) (fun x g hp => ?_)
  · obtain ⟨hk, hx⟩ := hx
    unfold kA at hk
    subst hk
    refine ⟨Or.inl rfl, 13, ⟨[], _, [], rfl, fun z hz => absurd hz List.not_mem_nil, by decide, by decide, clL_18, rfl⟩, ?_⟩
    refine V.astoreX hc dL_told_13 rfl (lo' := [(21, 0), (0, vc), (0, vi), (87, 8), (5, q9)]) rfl ?_
    refine V.iconst hc dL_told_15 ?_
    exact V.xiret hc hr dL_told_16 rfl ⟨by omega, hx⟩
  refine V.i2lN hc dL_told_8 ?_
  refine V.jst hc (by omega) dL_told_9 (fun g1 e1 => ?_)
  subst e1
  refine V.goto hc (tgt := 17) dL_told_10 (by decide) ?_
  refine V.iconst hc dL_told_17 ?_
  exact V.xiret hc hr dL_told_18 rfl ⟨by omega, hp⟩
