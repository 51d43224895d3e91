theorem qX12_image (G : GG) (l : Launch) (o : Int) (h : HP) (P : HP → Prop) (hw : wX12_image o h P) : CnV l G yX12_image cX12_image 1 9 [(22, o)] h P := by
  refine CnV.of (lo := [(22, o)]) (by decide) rfl rfl rfl ?_
  intro p e s m args below meth c hc hr
  have hc : VC G p (rmD 9 0) s m args meth c RX12 cX12_image 1 9 := hc
  refine V.aload_n (t := 12) hc dX12_image_0 rfl rfl ?_
  refine V.iconst hc dX12_image_1 ?_
  refine V.pI hc pI_X12_118 rfl dX12_image_2 (fun h1 e => ?_)
  replace hw := hw h1 e
  clear e
  refine V.aload_n (t := 12) hc dX12_image_5 rfl rfl ?_
  refine V.iconst hc dX12_image_6 ?_
  refine V.pZ hc pI_X12_238 rfl (by omega) dX12_image_7 (fun h2 e => ?_)
  replace hw := hw h2 e
  clear e
  refine V.aload_n (t := 12) hc dX12_image_10 rfl rfl ?_
  refine V.aload_n (t := 12) hc dX12_image_11 rfl rfl ?_
  refine V.gI hc gI_X12_232 rfl dX12_image_12 ?_
  refine V.pI hc pI_X12_459 rfl dX12_image_15 (fun h3 e => ?_)
  replace hw := hw h3 e
  clear e
  refine V.aload_n (t := 12) hc dX12_image_18 rfl rfl ?_
  refine V.aload_n (t := 12) hc dX12_image_19 rfl rfl ?_
  refine V.gI hc gI_X12_235 rfl dX12_image_20 ?_
  refine V.pI hc pI_X12_462 rfl dX12_image_23 (fun h4 e => ?_)
  replace hw := hw h4 e
  clear e
  refine V.aload_n (t := 12) hc dX12_image_26 rfl rfl ?_
  refine V.gR hc gR_X12_100 (i' := o) rfl dX12_image_27 ?_
  refine V.aload_n (t := 12) hc dX12_image_30 rfl rfl ?_
  refine V.gR hc gR_X12_43 (i' := o) rfl dX12_image_31 ?_
  refine V.callSV hc (qX12_copyTo G l _ _ _ _ _ _ hw) mo_X12_copyTo ml_X12_398 (as := [(81, o), (66, o)]) rfl rfl rfl rfl rfl ⟨Nat.zero_le _, Nat.zero_le _⟩ dX12_image_34 (fun h5 hw => ?_)
  refine V.aload_n (t := 12) hc dX12_image_37 rfl rfl ?_
  refine V.gR hc gR_X12_103 (i' := o) rfl dX12_image_38 ?_
  refine V.aload_n (t := 12) hc dX12_image_41 rfl rfl ?_
  refine V.gR hc gR_X12_73 (i' := o) rfl dX12_image_42 ?_
  refine V.callSV hc (qX12_copyTo G l _ _ _ _ _ _ hw) mo_X12_copyTo ml_X12_398 (as := [(82, o), (72, o)]) rfl rfl rfl rfl rfl ⟨Nat.zero_le _, Nat.zero_le _⟩ dX12_image_45 (fun h6 hw => ?_)
  refine V.aload_n (t := 12) hc dX12_image_48 rfl rfl ?_
  refine V.gR hc gR_X12_106 (i' := o) rfl dX12_image_49 ?_
  refine V.aload_n (t := 12) hc dX12_image_52 rfl rfl ?_
  refine V.gR hc gR_X12_79 (i' := o) rfl dX12_image_53 ?_
  refine V.callSV hc (qX12_copyTo G l _ _ _ _ _ _ hw) mo_X12_copyTo ml_X12_398 (as := [(83, o), (74, o)]) rfl rfl rfl rfl rfl ⟨Nat.zero_le _, Nat.zero_le _⟩ dX12_image_56 (fun h7 hw => ?_)
  refine V.aload_n (t := 12) hc dX12_image_59 rfl rfl ?_
  refine V.gR hc gR_X12_109 (i' := o) rfl dX12_image_60 ?_
  refine V.aload_n (t := 12) hc dX12_image_63 rfl rfl ?_
  refine V.gR hc gR_X12_82 (i' := o) rfl dX12_image_64 ?_
  refine V.callSV hc (qX12_copyTo G l _ _ _ _ _ _ hw) mo_X12_copyTo ml_X12_398 (as := [(84, o), (75, o)]) rfl rfl rfl rfl rfl ⟨Nat.zero_le _, Nat.zero_le _⟩ dX12_image_67 (fun h8 hw => ?_)
  refine V.aload_n (t := 12) hc dX12_image_70 rfl rfl ?_
  refine V.gR hc gR_X12_112 (i' := o) rfl dX12_image_71 ?_
  refine V.aload_n (t := 12) hc dX12_image_74 rfl rfl ?_
  refine V.gR hc gR_X12_85 (i' := o) rfl dX12_image_75 ?_
  refine V.callSV hc (qX12_copyTo G l _ _ _ _ _ _ hw) mo_X12_copyTo ml_X12_398 (as := [(85, o), (76, o)]) rfl rfl rfl rfl rfl ⟨Nat.zero_le _, Nat.zero_le _⟩ dX12_image_78 (fun h9 hw => ?_)
  refine V.aload_n (t := 12) hc dX12_image_81 rfl rfl ?_
  refine V.gR hc gR_X12_115 (i' := o) rfl dX12_image_82 ?_
  refine V.aload_n (t := 12) hc dX12_image_85 rfl rfl ?_
  refine V.gR hc gR_X12_46 (i' := o) rfl dX12_image_86 ?_
  refine V.callSV hc (qX12_copyTo G l _ _ _ _ _ _ hw) mo_X12_copyTo ml_X12_398 (as := [(86, o), (67, o)]) rfl rfl rfl rfl rfl ⟨Nat.zero_le _, Nat.zero_le _⟩ dX12_image_89 (fun h10 hw => ?_)
  exact V.vret hc hr dX12_image_92 hw
theorem qX12_restore (G : GG) (l : Launch) (o : Int) (h : HP) (P : Int → HP → Prop) (hw : wX12_restore o h P) : CnI l G yX12_restore cX12_restore 1 (some .boolean) 9 [(22, o)] h P := by
  refine CnI.of (lo := [(22, o)]) (by decide) rfl rfl rfl ?_
  intro p e s m args below meth c hc hr
  have hc : VC G p (rmD 9 0) s m args meth c RX12 cX12_restore 1 9 := hc
  refine V.aload_n (t := 12) hc dX12_restore_0 rfl rfl ?_
  refine V.iconst hc dX12_restore_1 ?_
  refine V.pI hc pI_X12_118 rfl dX12_restore_2 (fun h1 e => ?_)
  replace hw := hw h1 e
  clear e
  refine V.aload_n (t := 12) hc dX12_restore_5 rfl rfl ?_
  refine V.gI hc gI_X12_238 rfl dX12_restore_6 ?_
  obtain ⟨g2, hw⟩ := hw
  refine V.if_ne hc (tgt := 14) dX12_restore_9 (by decide) g2 (fun c3 => ?_) (fun c3 => ?_)
  · replace hw := hw.1 c3
    refine V.aload_n (t := 12) hc dX12_restore_14 rfl rfl ?_
    refine V.aload_n (t := 12) hc dX12_restore_15 rfl rfl ?_
    refine V.gI hc gI_X12_459 rfl dX12_restore_16 ?_
    refine V.pI hc pI_X12_232 rfl dX12_restore_19 (fun h4 e => ?_)
    replace hw := hw h4 e
    clear e
    refine V.aload_n (t := 12) hc dX12_restore_22 rfl rfl ?_
    refine V.aload_n (t := 12) hc dX12_restore_23 rfl rfl ?_
    refine V.gI hc gI_X12_462 rfl dX12_restore_24 ?_
    refine V.pI hc pI_X12_235 rfl dX12_restore_27 (fun h5 e => ?_)
    replace hw := hw h5 e
    clear e
    refine V.aload_n (t := 12) hc dX12_restore_30 rfl rfl ?_
    refine V.gR hc gR_X12_43 (i' := o) rfl dX12_restore_31 ?_
    refine V.aload_n (t := 12) hc dX12_restore_34 rfl rfl ?_
    refine V.gR hc gR_X12_100 (i' := o) rfl dX12_restore_35 ?_
    refine V.callSV hc (qX12_copyTo G l _ _ _ _ _ _ hw) mo_X12_copyTo ml_X12_398 (as := [(66, o), (81, o)]) rfl rfl rfl rfl rfl ⟨Nat.zero_le _, Nat.zero_le _⟩ dX12_restore_38 (fun h6 hw => ?_)
    refine V.aload_n (t := 12) hc dX12_restore_41 rfl rfl ?_
    refine V.gR hc gR_X12_73 (i' := o) rfl dX12_restore_42 ?_
    refine V.aload_n (t := 12) hc dX12_restore_45 rfl rfl ?_
    refine V.gR hc gR_X12_103 (i' := o) rfl dX12_restore_46 ?_
    refine V.callSV hc (qX12_copyTo G l _ _ _ _ _ _ hw) mo_X12_copyTo ml_X12_398 (as := [(72, o), (82, o)]) rfl rfl rfl rfl rfl ⟨Nat.zero_le _, Nat.zero_le _⟩ dX12_restore_49 (fun h7 hw => ?_)
    refine V.aload_n (t := 12) hc dX12_restore_52 rfl rfl ?_
    refine V.gR hc gR_X12_79 (i' := o) rfl dX12_restore_53 ?_
    refine V.aload_n (t := 12) hc dX12_restore_56 rfl rfl ?_
    refine V.gR hc gR_X12_106 (i' := o) rfl dX12_restore_57 ?_
    refine V.callSV hc (qX12_copyTo G l _ _ _ _ _ _ hw) mo_X12_copyTo ml_X12_398 (as := [(74, o), (83, o)]) rfl rfl rfl rfl rfl ⟨Nat.zero_le _, Nat.zero_le _⟩ dX12_restore_60 (fun h8 hw => ?_)
    refine V.aload_n (t := 12) hc dX12_restore_63 rfl rfl ?_
    refine V.gR hc gR_X12_82 (i' := o) rfl dX12_restore_64 ?_
    refine V.aload_n (t := 12) hc dX12_restore_67 rfl rfl ?_
    refine V.gR hc gR_X12_109 (i' := o) rfl dX12_restore_68 ?_
    refine V.callSV hc (qX12_copyTo G l _ _ _ _ _ _ hw) mo_X12_copyTo ml_X12_398 (as := [(75, o), (84, o)]) rfl rfl rfl rfl rfl ⟨Nat.zero_le _, Nat.zero_le _⟩ dX12_restore_71 (fun h9 hw => ?_)
    refine V.aload_n (t := 12) hc dX12_restore_74 rfl rfl ?_
    refine V.gR hc gR_X12_85 (i' := o) rfl dX12_restore_75 ?_
    refine V.aload_n (t := 12) hc dX12_restore_78 rfl rfl ?_
    refine V.gR hc gR_X12_112 (i' := o) rfl dX12_restore_79 ?_
    refine V.callSV hc (qX12_copyTo G l _ _ _ _ _ _ hw) mo_X12_copyTo ml_X12_398 (as := [(76, o), (85, o)]) rfl rfl rfl rfl rfl ⟨Nat.zero_le _, Nat.zero_le _⟩ dX12_restore_82 (fun h10 hw => ?_)
    refine V.aload_n (t := 12) hc dX12_restore_85 rfl rfl ?_
    refine V.gR hc gR_X12_46 (i' := o) rfl dX12_restore_86 ?_
    refine V.aload_n (t := 12) hc dX12_restore_89 rfl rfl ?_
    refine V.gR hc gR_X12_115 (i' := o) rfl dX12_restore_90 ?_
    refine V.callSV hc (qX12_copyTo G l _ _ _ _ _ _ hw) mo_X12_copyTo ml_X12_398 (as := [(67, o), (86, o)]) rfl rfl rfl rfl rfl ⟨Nat.zero_le _, Nat.zero_le _⟩ dX12_restore_93 (fun h11 hw => ?_)
    refine V.iconst hc dX12_restore_96 ?_
    exact V.zret hc hr dX12_restore_97 (by omega) hw
  · replace hw := hw.2 c3
    refine V.iconst hc dX12_restore_12 ?_
    exact V.zret hc hr dX12_restore_13 (by omega) hw
