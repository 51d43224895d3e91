theorem qX11_due (G : GG) (l : Launch) (o : Int) (a1 : Int) (a2 : Int) (h : HP) (P : Int → HP → Prop) (X : Nat → HP → Prop) (hX : ∀ (k : Nat) (h : HP), ¬ X k h) (hw : wX11_due o a1 a2 h P X) : CnI l G yX11_due cX11_due 3 (some .int) 4 [(21, o), (0, a1), (0, a2)] h P := by
  refine CnI.of (lo := [(21, o), (0, a1), (0, a2)]) (by decide) rfl rfl rfl ?_
  intro p e s m args below meth c hc hr
  have hc : VC G p (rmD 4 0) s m args meth c RX11 cX11_due 3 4 := hc
  refine V.aload_n (t := 11) hc dX11_due_0 rfl rfl ?_
  refine V.iload_n hc dX11_due_1 rfl rfl ?_
  refine V.callVV hc (qX11_needClass G l _ _ _ _ _ hX hw) mo_X11_needClass ml_X11_195 (by rfl) rfl rfl (as := [(0, a1)]) rfl rfl rfl rfl rfl ⟨Nat.zero_le _, Nat.zero_le _⟩ dX11_due_2 (fun h1 hw => ?_)
  refine V.iload_n hc dX11_due_5 rfl rfl ?_
  obtain ⟨g2, hw⟩ := hw
  refine V.if_lt hc (tgt := 25) dX11_due_6 (by decide) g2 (fun c3 => ?_) (fun c3 => ?_)
  · replace hw := hw.1 c3
    exact absurd hw (hX _ _)
  · replace hw := hw.2 c3
    refine V.iload_n hc dX11_due_9 rfl rfl ?_
    refine V.iconst hc dX11_due_10 ?_
    obtain ⟨g4, hw⟩ := hw
    refine V.icmp_gt hc (tgt := 25) dX11_due_11 (by decide) g4 (by omega) (fun c5 => ?_) (fun c5 => ?_)
    · replace hw := hw.1 c5
      exact absurd hw (hX _ _)
    · replace hw := hw.2 c5
      refine V.aload_n (t := 11) hc dX11_due_14 rfl rfl ?_
      refine V.gR hc gR_X11_47 (i' := 10) rfl dX11_due_15 ?_
      refine V.iload_n hc dX11_due_18 rfl rfl ?_
      refine V.callVI hc (qX6_isActive G l _ _ _ _ hw) mo_X6_isActive ml_X11_205 (by rfl) rfl rfl (as := [(0, a1)]) rfl rfl rfl rfl rfl ⟨Nat.zero_le _, Nat.zero_le _⟩ dX11_due_19 (fun x7 h6 hw => ?_)
      obtain ⟨g8, hw⟩ := hw
      refine V.if_ne hc (tgt := 33) dX11_due_22 (by decide) g8 (fun c9 => ?_) (fun c9 => ?_)
      · replace hw := hw.1 c9
        refine V.iload_n hc dX11_due_33 rfl rfl ?_
        refine V.iconst hc dX11_due_34 ?_
        obtain ⟨g10, hw⟩ := hw
        refine V.icmp_ne hc (tgt := 47) dX11_due_35 (by decide) g10 (by omega) (fun c11 => ?_) (fun c11 => ?_)
        · replace hw := hw.1 c11
          refine V.aload_n (t := 11) hc dX11_due_47 rfl rfl ?_
          refine V.gR hc gR_X11_47 (i' := 10) rfl dX11_due_48 ?_
          refine V.iload_n hc dX11_due_51 rfl rfl ?_
          refine V.iconst hc dX11_due_52 ?_
          refine V.callVI hc (qX6_hasCurve G l _ _ _ _ _ hw) mo_X6_hasCurve ml_X11_229 (by rfl) rfl rfl (as := [(0, a1), (0, 0)]) rfl rfl rfl rfl rfl ⟨Nat.zero_le _, Nat.zero_le _⟩ dX11_due_53 (fun x13 h12 hw => ?_)
          obtain ⟨g14, hw⟩ := hw
          refine V.if_ne hc (tgt := 67) dX11_due_56 (by decide) g14 (fun c15 => ?_) (fun c15 => ?_)
          · replace hw := hw.1 c15
            refine V.iload_n hc dX11_due_67 rfl rfl ?_
            obtain ⟨g16, hw⟩ := hw
            refine V.if_ne hc (tgt := 82) dX11_due_68 (by decide) g16 (fun c17 => ?_) (fun c17 => ?_)
            · replace hw := hw.1 c17
              refine V.aload_n (t := 11) hc dX11_due_82 rfl rfl ?_
              refine V.gR hc gR_X11_47 (i' := 10) rfl dX11_due_83 ?_
              refine V.iload_n hc dX11_due_86 rfl rfl ?_
              refine V.callVI hc (qX6_deadline G l _ _ _ _ hw) mo_X6_deadline ml_X11_258 (by rfl) rfl rfl (as := [(0, a1)]) rfl rfl rfl rfl rfl ⟨Nat.zero_le _, Nat.zero_le _⟩ dX11_due_87 (fun x19 h18 hw => ?_)
              exact V.iret hc hr dX11_due_90 hw
            · replace hw := hw.2 c17
              refine V.aload_n (t := 11) hc dX11_due_71 rfl rfl ?_
              refine V.gR hc gR_X11_47 (i' := 10) rfl dX11_due_72 ?_
              refine V.iload_n hc dX11_due_75 rfl rfl ?_
              refine V.callVI hc (qX6_eligible G l _ _ _ _ hw) mo_X6_eligible ml_X11_255 (by rfl) rfl rfl (as := [(0, a1)]) rfl rfl rfl rfl rfl ⟨Nat.zero_le _, Nat.zero_le _⟩ dX11_due_76 (fun x21 h20 hw => ?_)
              refine V.goto hc (tgt := 90) dX11_due_79 (by decide) ?_
              exact V.iret hc hr dX11_due_90 hw
          · replace hw := hw.2 c15
            exact absurd hw (hX _ _)
        · replace hw := hw.2 c11
          refine V.aload_n (t := 11) hc dX11_due_38 rfl rfl ?_
          refine V.gR hc gR_X11_47 (i' := 10) rfl dX11_due_39 ?_
          refine V.iload_n hc dX11_due_42 rfl rfl ?_
          refine V.callVI hc (qX6_fitOf G l _ _ _ _ hw) mo_X6_fitOf ml_X11_252 (by rfl) rfl rfl (as := [(0, a1)]) rfl rfl rfl rfl rfl ⟨Nat.zero_le _, Nat.zero_le _⟩ dX11_due_43 (fun x23 h22 hw => ?_)
          exact V.iret hc hr dX11_due_46 hw
      · replace hw := hw.2 c9
        exact absurd hw (hX _ _)
theorem qX11_refuse (G : GG) (l : Launch) (o : Int) (a1 : Int) (h : HP) (P : Int → HP → Prop) (hw : wX11_refuse o a1 h P) : CnI l G yX11_refuse cX11_refuse 2 (some .int) 1 [(21, o), (0, a1)] h P := by
  refine CnI.of (lo := [(21, o), (0, a1)]) (by decide) rfl rfl rfl ?_
  intro p e s m args below meth c hc hr
  have hc : VC G p (rmD 1 0) s m args meth c RX11 cX11_refuse 2 1 := hc
  refine V.aload_n (t := 11) hc dX11_refuse_0 rfl rfl ?_
  refine V.gR hc gR_X11_20 (i' := o) rfl dX11_refuse_1 ?_
  refine V.iload_n hc dX11_refuse_4 rfl rfl ?_
  refine V.dup2 hc dX11_refuse_5 (by simp) (by simp) ?_
  obtain ⟨g1, hw⟩ := hw
  refine V.ald hc ak_46 g1 dX11_refuse_6 ?_
  refine V.iconst hc dX11_refuse_7 ?_
  refine V.iadd hc dX11_refuse_8 ?_
  obtain ⟨g3, hw⟩ := hw
  refine V.ast hc ak_46 g3 dX11_refuse_9 (fun h2 e => ?_)
  replace hw := hw h2 e
  clear e
  refine V.iconst hc dX11_refuse_10 ?_
  exact V.iret hc hr dX11_refuse_11 hw
theorem qX11_come (G : GG) (l : Launch) (o : Int) (a1 : Int) (a2 : Int) (h : HP) (P : Int → HP → Prop) (hw : wX11_come o a1 a2 h P) : CnI l G yX11_come cX11_come 3 (some .int) 5 [(21, o), (0, a1), (0, a2)] h P := by
  refine CnI.of (lo := [(21, o), (0, a1), (0, a2)]) (by decide) rfl rfl rfl ?_
  intro p e s m args below meth c hc hr
  have hc : VC G p (rmD 5 0) s m args meth c RX11 cX11_come 3 5 := hc
  refine V.aload_n (t := 11) hc dX11_come_0 rfl rfl ?_
  refine V.gR hc gR_X11_26 (i' := 1) rfl dX11_come_1 ?_
  refine V.iload_n hc dX11_come_4 rfl rfl ?_
  refine V.callVI hc (qX8_hasLeaf G l _ _ _ _ hw) mo_X8_hasLeaf ml_X11_261 (by rfl) rfl rfl (as := [(0, a1)]) rfl rfl rfl rfl rfl ⟨Nat.zero_le _, Nat.zero_le _⟩ dX11_come_5 (fun x2 h1 hw => ?_)
  obtain ⟨g3, hw⟩ := hw
  refine V.if_eq hc (tgt := 22) dX11_come_8 (by decide) g3 (fun c4 => ?_) (fun c4 => ?_)
  · replace hw := hw.1 c4
    refine V.aload_n (t := 11) hc dX11_come_22 rfl rfl ?_
    refine V.iconst hc dX11_come_23 ?_
    refine V.callVI hc (qX11_refuse G l _ _ _ _ hw) mo_X11_refuse ml_X11_264 (by rfl) rfl rfl (as := [(0, 1)]) rfl rfl rfl rfl rfl ⟨Nat.zero_le _, Nat.zero_le _⟩ dX11_come_24 (fun x6 h5 hw => ?_)
    exact V.iret hc hr dX11_come_27 hw
  · replace hw := hw.2 c4
    refine V.iload_n hc dX11_come_11 rfl rfl ?_
    refine V.iconst hc dX11_come_12 ?_
    obtain ⟨g7, hw⟩ := hw
    refine V.icmp_lt hc (tgt := 22) dX11_come_13 (by decide) g7 (by omega) (fun c8 => ?_) (fun c8 => ?_)
    · replace hw := hw.1 c8
      refine V.aload_n (t := 11) hc dX11_come_22 rfl rfl ?_
      refine V.iconst hc dX11_come_23 ?_
      refine V.callVI hc (qX11_refuse G l _ _ _ _ hw) mo_X11_refuse ml_X11_264 (by rfl) rfl rfl (as := [(0, 1)]) rfl rfl rfl rfl rfl ⟨Nat.zero_le _, Nat.zero_le _⟩ dX11_come_24 (fun x10 h9 hw => ?_)
      exact V.iret hc hr dX11_come_27 hw
    · replace hw := hw.2 c8
      refine V.iload_n hc dX11_come_16 rfl rfl ?_
      refine V.bipush hc dX11_come_17 (by decide) ?_
      obtain ⟨g11, hw⟩ := hw
      refine V.icmp_le hc (tgt := 28) dX11_come_19 (by decide) g11 (by omega) (fun c12 => ?_) (fun c12 => ?_)
      · replace hw := hw.1 c12
        refine V.aload_n (t := 11) hc dX11_come_28 rfl rfl ?_
        refine V.gR hc gR_X11_54 (i' := 3) rfl dX11_come_29 ?_
        refine V.aload_n (t := 11) hc dX11_come_32 rfl rfl ?_
        refine V.gR hc gR_X11_47 (i' := 10) rfl dX11_come_33 ?_
        refine V.callVV hc (qX5_keep G l _ _ _ _ hw) mo_X5_keep ml_X11_267 (by rfl) rfl rfl (as := [(16, 10)]) rfl rfl rfl rfl rfl ⟨Nat.zero_le _, Nat.zero_le _⟩ dX11_come_36 (fun h13 hw => ?_)
        refine V.aload_n (t := 11) hc dX11_come_39 rfl rfl ?_
        refine V.gR hc gR_X11_47 (i' := 10) rfl dX11_come_40 ?_
        refine V.iload_n hc dX11_come_43 rfl rfl ?_
        refine V.iload_n hc dX11_come_44 rfl rfl ?_
        refine V.callVV hc (qX6_accept G l _ _ _ _ _ hw) mo_X6_accept ml_X11_271 (by rfl) rfl rfl (as := [(0, a1), (0, a2)]) rfl rfl rfl rfl rfl ⟨Nat.zero_le _, Nat.zero_le _⟩ dX11_come_45 (fun h14 hw => ?_)
        refine V.aload_n (t := 11) hc dX11_come_48 rfl rfl ?_
        refine V.gR hc gR_X11_47 (i' := 10) rfl dX11_come_49 ?_
        refine V.iload_n hc dX11_come_52 rfl rfl ?_
        refine V.callVI hc (qX6_packets G l _ _ _ _ hw) mo_X6_packets ml_X11_220 (by rfl) rfl rfl (as := [(0, a1)]) rfl rfl rfl rfl rfl ⟨Nat.zero_le _, Nat.zero_le _⟩ dX11_come_53 (fun x16 h15 hw => ?_)
        exact V.iret hc hr dX11_come_56 hw
      · replace hw := hw.2 c12
        refine V.aload_n (t := 11) hc dX11_come_22 rfl rfl ?_
        refine V.iconst hc dX11_come_23 ?_
        refine V.callVI hc (qX11_refuse G l _ _ _ _ hw) mo_X11_refuse ml_X11_264 (by rfl) rfl rfl (as := [(0, 1)]) rfl rfl rfl rfl rfl ⟨Nat.zero_le _, Nat.zero_le _⟩ dX11_come_24 (fun x18 h17 hw => ?_)
        exact V.iret hc hr dX11_come_27 hw
theorem qX11_units (G : GG) (l : Launch) (o : Int) (a1 : Int) (h : HP) (P : Int → HP → Prop) (hw : wX11_units o a1 h P) : CnI l G yX11_units cX11_units 2 (some .int) 6 [(21, o), (0, a1)] h P := by
  refine CnI.of (lo := [(21, o), (0, a1)]) (by decide) rfl rfl rfl ?_
  intro p e s m args below meth c hc hr
  have hc : VC G p (rmD 6 0) s m args meth c RX11 cX11_units 2 6 := hc
  refine V.iload_n hc dX11_units_0 rfl rfl ?_
  refine V.iconst hc dX11_units_1 ?_
  obtain ⟨g1, hw⟩ := hw
  refine V.icmp_lt hc (tgt := 26) dX11_units_2 (by decide) g1 (by omega) (fun c2 => ?_) (fun c2 => ?_)
  · replace hw := hw.1 c2
    refine V.aload_n (t := 11) hc dX11_units_26 rfl rfl ?_
    refine V.iconst hc dX11_units_27 ?_
    refine V.callVI hc (qX11_refuse G l _ _ _ _ hw) mo_X11_refuse ml_X11_264 (by rfl) rfl rfl (as := [(0, 1)]) rfl rfl rfl rfl rfl ⟨Nat.zero_le _, Nat.zero_le _⟩ dX11_units_28 (fun x4 h3 hw => ?_)
    exact V.iret hc hr dX11_units_31 hw
  · replace hw := hw.2 c2
    refine V.iload_n hc dX11_units_5 rfl rfl ?_
    refine V.bipush hc dX11_units_6 (by decide) ?_
    obtain ⟨g5, hw⟩ := hw
    refine V.icmp_gt hc (tgt := 26) dX11_units_8 (by decide) g5 (by omega) (fun c6 => ?_) (fun c6 => ?_)
    · replace hw := hw.1 c6
      refine V.aload_n (t := 11) hc dX11_units_26 rfl rfl ?_
      refine V.iconst hc dX11_units_27 ?_
      refine V.callVI hc (qX11_refuse G l _ _ _ _ hw) mo_X11_refuse ml_X11_264 (by rfl) rfl rfl (as := [(0, 1)]) rfl rfl rfl rfl rfl ⟨Nat.zero_le _, Nat.zero_le _⟩ dX11_units_28 (fun x8 h7 hw => ?_)
      exact V.iret hc hr dX11_units_31 hw
    · replace hw := hw.2 c6
      refine V.aload_n (t := 11) hc dX11_units_11 rfl rfl ?_
      refine V.gR hc gR_X11_47 (i' := 10) rfl dX11_units_12 ?_
      refine V.gI hc gI_X11_156 rfl dX11_units_15 ?_
      refine V.iload_n hc dX11_units_18 rfl rfl ?_
      refine V.iadd hc dX11_units_19 ?_
      refine V.sipush hc dX11_units_20 (by decide) ?_
      obtain ⟨g9, hw⟩ := hw
      refine V.icmp_le hc (tgt := 32) dX11_units_23 (by decide) g9 (by omega) (fun c10 => ?_) (fun c10 => ?_)
      · replace hw := hw.1 c10
        refine V.aload_n (t := 11) hc dX11_units_32 rfl rfl ?_
        refine V.gR hc gR_X11_54 (i' := 3) rfl dX11_units_33 ?_
        refine V.aload_n (t := 11) hc dX11_units_36 rfl rfl ?_
        refine V.gR hc gR_X11_47 (i' := 10) rfl dX11_units_37 ?_
        refine V.callVV hc (qX5_keep G l _ _ _ _ hw) mo_X5_keep ml_X11_267 (by rfl) rfl rfl (as := [(16, 10)]) rfl rfl rfl rfl rfl ⟨Nat.zero_le _, Nat.zero_le _⟩ dX11_units_40 (fun h11 hw => ?_)
        refine V.aload_n (t := 11) hc dX11_units_43 rfl rfl ?_
        refine V.gR hc gR_X11_47 (i' := 10) rfl dX11_units_44 ?_
        refine V.iload_n hc dX11_units_47 rfl rfl ?_
        refine V.callVV hc (qX6_pass G l _ _ _ _ hw) mo_X6_pass ml_X11_275 (by rfl) rfl rfl (as := [(0, a1)]) rfl rfl rfl rfl rfl ⟨Nat.zero_le _, Nat.zero_le _⟩ dX11_units_48 (fun h12 hw => ?_)
        refine V.aload_n (t := 11) hc dX11_units_51 rfl rfl ?_
        refine V.gR hc gR_X11_47 (i' := 10) rfl dX11_units_52 ?_
        refine V.gI hc gI_X11_156 rfl dX11_units_55 ?_
        exact V.iret hc hr dX11_units_58 hw
      · replace hw := hw.2 c10
        refine V.aload_n (t := 11) hc dX11_units_26 rfl rfl ?_
        refine V.iconst hc dX11_units_27 ?_
        refine V.callVI hc (qX11_refuse G l _ _ _ _ hw) mo_X11_refuse ml_X11_264 (by rfl) rfl rfl (as := [(0, 1)]) rfl rfl rfl rfl rfl ⟨Nat.zero_le _, Nat.zero_le _⟩ dX11_units_28 (fun x14 h13 hw => ?_)
        exact V.iret hc hr dX11_units_31 hw
theorem qX11_undo (G : GG) (l : Launch) (o : Int) (h : HP) (P : Int → HP → Prop) (hw : wX11_undo o h P) : CnI l G yX11_undo cX11_undo 1 (some .int) 5 [(21, o)] h P := by
  refine CnI.of (lo := [(21, o)]) (by decide) rfl rfl rfl ?_
  intro p e s m args below meth c hc hr
  have hc : VC G p (rmD 5 0) s m args meth c RX11 cX11_undo 1 5 := hc
  refine V.aload_n (t := 11) hc dX11_undo_0 rfl rfl ?_
  refine V.gR hc gR_X11_54 (i' := 3) rfl dX11_undo_1 ?_
  refine V.callVI hc (qX5_size G l _ _ _ hw) mo_X5_size ml_X11_186 (by rfl) rfl rfl (as := []) rfl rfl rfl rfl rfl ⟨Nat.zero_le _, Nat.zero_le _⟩ dX11_undo_4 (fun x2 h1 hw => ?_)
  obtain ⟨g3, hw⟩ := hw
  refine V.if_ne hc (tgt := 12) dX11_undo_7 (by decide) g3 (fun c4 => ?_) (fun c4 => ?_)
  · replace hw := hw.1 c4
    refine V.aload_n (t := 11) hc dX11_undo_12 rfl rfl ?_
    refine V.gR hc gR_X11_54 (i' := 3) rfl dX11_undo_13 ?_
    refine V.aload_n (t := 11) hc dX11_undo_16 rfl rfl ?_
    refine V.gR hc gR_X11_47 (i' := 10) rfl dX11_undo_17 ?_
    refine V.callVV hc (qX5_takeBack G l _ _ _ _ hw) mo_X5_takeBack ml_X11_311 (by rfl) rfl rfl (as := [(16, 10)]) rfl rfl rfl rfl rfl ⟨Nat.zero_le _, Nat.zero_le _⟩ dX11_undo_20 (fun h5 hw => ?_)
    refine V.aload_n (t := 11) hc dX11_undo_23 rfl rfl ?_
    refine V.gR hc gR_X11_54 (i' := 3) rfl dX11_undo_24 ?_
    refine V.callVI hc (qX5_size G l _ _ _ hw) mo_X5_size ml_X11_186 (by rfl) rfl rfl (as := []) rfl rfl rfl rfl rfl ⟨Nat.zero_le _, Nat.zero_le _⟩ dX11_undo_27 (fun x7 h6 hw => ?_)
    exact V.iret hc hr dX11_undo_30 hw
  · replace hw := hw.2 c4
    refine V.iconst hc dX11_undo_10 ?_
    exact V.iret hc hr dX11_undo_11 hw
theorem qX11_needRange (G : GG) (l : Launch) (a0 : Int) (a1 : Int) (a2 : Int) (h : HP) (P : HP → Prop) (X : Nat → HP → Prop) (hX : ∀ (k : Nat) (h : HP), ¬ X k h) (hw : wX11_needRange a0 a1 a2 h P X) : CnV l G yX11_needRange cX11_needRange 3 1 [(0, a0), (0, a1), (0, a2)] h P := by
  refine CnV.of (lo := [(0, a0), (0, a1), (0, a2)]) (by decide) rfl rfl rfl ?_
  intro p e s m args below meth c hc hr
  have hc : VC G p (rmD 1 0) s m args meth c RX11 cX11_needRange 3 1 := hc
  refine V.iload_n hc dX11_needRange_0 rfl rfl ?_
  refine V.iload_n hc dX11_needRange_1 rfl rfl ?_
  obtain ⟨g1, hw⟩ := hw
  obtain ⟨g2, hw⟩ := hw
  refine V.icmp_lt hc (tgt := 10) dX11_needRange_2 (by decide) g1 g2 (fun c3 => ?_) (fun c3 => ?_)
  · replace hw := hw.1 c3
    exact absurd hw (hX _ _)
  · replace hw := hw.2 c3
    refine V.iload_n hc dX11_needRange_5 rfl rfl ?_
    refine V.iload_n hc dX11_needRange_6 rfl rfl ?_
    obtain ⟨g4, hw⟩ := hw
    obtain ⟨g5, hw⟩ := hw
    refine V.icmp_le hc (tgt := 18) dX11_needRange_7 (by decide) g4 g5 (fun c6 => ?_) (fun c6 => ?_)
    · replace hw := hw.1 c6
      exact V.vret hc hr dX11_needRange_18 hw
    · replace hw := hw.2 c6
      exact absurd hw (hX _ _)
theorem qX11_next (G : GG) (l : Launch) (o : Int) (a1 : Int) (a2 : Int) (h : HP) (P : Int → HP → Prop) (X : Nat → HP → Prop) (hX : ∀ (k : Nat) (h : HP), ¬ X k h) (hw : wX11_next o a1 a2 h P X) : CnI l G yX11_next cX11_next 3 (some .int) 6 [(21, o), (0, a1), (0, a2)] h P := by
  refine CnI.of (lo := [(21, o), (0, a1), (0, a2)]) (by decide) rfl rfl rfl ?_
  intro p e s m args below meth c hc hr
  have hc : VC G p (rmD 6 0) s m args meth c RX11 cX11_next 3 6 := hc
  refine V.iload_n hc dX11_next_0 rfl rfl ?_
  obtain ⟨g1, hw⟩ := hw
  refine V.if_lt hc (tgt := 9) dX11_next_1 (by decide) g1 (fun c2 => ?_) (fun c2 => ?_)
  · replace hw := hw.1 c2
    exact absurd hw (hX _ _)
  · replace hw := hw.2 c2
    refine V.iload_n hc dX11_next_4 rfl rfl ?_
    refine V.iconst hc dX11_next_5 ?_
    obtain ⟨g3, hw⟩ := hw
    refine V.icmp_le hc (tgt := 17) dX11_next_6 (by decide) g3 (by omega) (fun c4 => ?_) (fun c4 => ?_)
    · replace hw := hw.1 c4
      refine V.iload_n hc dX11_next_17 rfl rfl ?_
      refine V.iconst hc dX11_next_18 ?_
      refine V.bipush hc dX11_next_19 (by decide) ?_
      refine V.callSV hc (qX11_needRange G l _ _ _ _ _ _ hX hw) mo_X11_needRange ml_X11_320 (as := [(0, a1), (0, 1), (0, 20)]) rfl rfl rfl rfl rfl ⟨Nat.zero_le _, Nat.zero_le _⟩ dX11_next_21 (fun h5 hw => ?_)
      refine V.aload_n (t := 11) hc dX11_next_24 rfl rfl ?_
      refine V.gR hc gR_X11_98 (i' := 0) rfl dX11_next_25 ?_
      refine V.iload_n hc dX11_next_28 rfl rfl ?_
      refine V.iload_n hc dX11_next_29 rfl rfl ?_
      refine V.callVI hc (qX2_chosenAt G l _ _ _ _ _ hw) mo_X2_chosenAt ml_X11_331 (by rfl) rfl rfl (as := [(0, a1), (0, a2)]) rfl rfl rfl rfl rfl ⟨Nat.zero_le _, Nat.zero_le _⟩ dX11_next_30 (fun x7 h6 hw => ?_)
      exact V.iret hc hr dX11_next_33 hw
    · replace hw := hw.2 c4
      exact absurd hw (hX _ _)
theorem qX11_years (G : GG) (l : Launch) (o : Int) (a1 : Int) (a2 : Int) (a3 : Int) (h : HP) (P : Int → HP → Prop) (X : Nat → HP → Prop) (hX : ∀ (k : Nat) (h : HP), ¬ X k h) (hw : wX11_years o a1 a2 a3 h P X) : CnI l G yX11_years cX11_years 4 (some .int) 7 [(21, o), (0, a1), (0, a2), (0, a3)] h P := by
  refine CnI.of (lo := [(21, o), (0, a1), (0, a2), (0, a3)]) (by decide) rfl rfl rfl ?_
  intro p e s m args below meth c hc hr
  have hc : VC G p (rmD 7 0) s m args meth c RX11 cX11_years 4 7 := hc
  refine V.iload_n hc dX11_years_0 rfl rfl ?_
  obtain ⟨g1, hw⟩ := hw
  refine V.if_lt hc (tgt := 9) dX11_years_1 (by decide) g1 (fun c2 => ?_) (fun c2 => ?_)
  · replace hw := hw.1 c2
    exact absurd hw (hX _ _)
  · replace hw := hw.2 c2
    refine V.iload_n hc dX11_years_4 rfl rfl ?_
    refine V.iconst hc dX11_years_5 ?_
    obtain ⟨g3, hw⟩ := hw
    refine V.icmp_le hc (tgt := 17) dX11_years_6 (by decide) g3 (by omega) (fun c4 => ?_) (fun c4 => ?_)
    · replace hw := hw.1 c4
      refine V.iload_n hc dX11_years_17 rfl rfl ?_
      refine V.iconst hc dX11_years_18 ?_
      refine V.bipush hc dX11_years_19 (by decide) ?_
      refine V.callSV hc (qX11_needRange G l _ _ _ _ _ _ hX hw) mo_X11_needRange ml_X11_320 (as := [(0, a2), (0, 0), (0, 60)]) rfl rfl rfl rfl rfl ⟨Nat.zero_le _, Nat.zero_le _⟩ dX11_years_21 (fun h5 hw => ?_)
      refine V.aload_n (t := 11) hc dX11_years_24 rfl rfl ?_
      refine V.gR hc gR_X11_114 (i' := 0) rfl dX11_years_25 ?_
      refine V.iload_n hc dX11_years_28 rfl rfl ?_
      refine V.iload_n hc dX11_years_29 rfl rfl ?_
      refine V.iload_n hc dX11_years_30 rfl rfl ?_
      refine V.callVI hc (qX0_liveThrough G l _ _ _ _ _ _ hw) mo_X0_liveThrough ml_X11_383 (by rfl) rfl rfl (as := [(0, a1), (0, a2), (0, a3)]) rfl rfl rfl rfl rfl ⟨Nat.zero_le _, Nat.zero_le _⟩ dX11_years_31 (fun x7 h6 hw => ?_)
      exact V.iret hc hr dX11_years_34 hw
    · replace hw := hw.2 c4
      exact absurd hw (hX _ _)
theorem qX11_told (G : GG) (l : Launch) (o : Int) (a1 : Int) (a2 : Int) (h : HP) (P : Int → HP → Prop) (X : Nat → HP → Prop) (hX : ∀ (k : Nat) (h : HP), ¬ X k h) (hw : wX11_told o a1 a2 h P X) : CnI l G yX11_told cX11_told 3 (some .int) 7 [(21, o), (0, a1), (0, a2)] h P := by
  refine CnI.of (lo := [(21, o), (0, a1), (0, a2)]) (by decide) rfl rfl rfl ?_
  intro p e s m args below meth c hc hr
  have hc : VC G p (rmD 7 0) s m args meth c RX11 cX11_told 3 7 := hc
  refine V.aload_n (t := 11) hc dX11_told_0 rfl rfl ?_
  refine V.iload_n hc dX11_told_1 rfl rfl ?_
  refine V.callVV hc (qX11_needClass G l _ _ _ _ _ hX hw) mo_X11_needClass ml_X11_195 (by rfl) rfl rfl (as := [(0, a1)]) rfl rfl rfl rfl rfl ⟨Nat.zero_le _, Nat.zero_le _⟩ dX11_told_2 (fun h1 hw => ?_)
  refine V.aload_n (t := 11) hc dX11_told_5 rfl rfl ?_
  refine V.gR hc gR_X11_121 (i' := 0) rfl dX11_told_6 ?_
  refine V.iload_n hc dX11_told_9 rfl rfl ?_
  refine V.aload_n (t := 11) hc dX11_told_10 rfl rfl ?_
  refine V.gR hc gR_X11_26 (i' := 1) rfl dX11_told_11 ?_
  refine V.aload_n (t := 11) hc dX11_told_14 rfl rfl ?_
  refine V.gR hc gR_X11_47 (i' := 10) rfl dX11_told_15 ?_
  refine V.gR hc gR_X11_233 (i' := 10) rfl dX11_told_18 ?_
  refine V.callVV hc (qX10_tell G l _ _ _ _ _ _ hw) mo_X10_tell ml_X11_386 (by rfl) rfl rfl (as := [(0, a1), (18, 1), (11, 10)]) rfl rfl rfl rfl rfl ⟨Nat.zero_le _, Nat.zero_le _⟩ dX11_told_21 (fun h2 hw => ?_)
  refine V.iload_n hc dX11_told_24 rfl rfl ?_
  refine V.iconst hc dX11_told_25 ?_
  obtain ⟨g3, hw⟩ := hw
  refine V.icmp_ne hc (tgt := 37) dX11_told_26 (by decide) g3 (by omega) (fun c4 => ?_) (fun c4 => ?_)
  · replace hw := hw.1 c4
    refine V.iload_n hc dX11_told_37 rfl rfl ?_
    obtain ⟨g5, hw⟩ := hw
    refine V.if_lt hc (tgt := 52) dX11_told_38 (by decide) g5 (fun c6 => ?_) (fun c6 => ?_)
    · replace hw := hw.1 c6
      exact absurd hw (hX _ _)
    · replace hw := hw.2 c6
      refine V.iload_n hc dX11_told_41 rfl rfl ?_
      refine V.aload_n (t := 11) hc dX11_told_42 rfl rfl ?_
      refine V.gR hc gR_X11_121 (i' := 0) rfl dX11_told_43 ?_
      refine V.gI hc gI_X11_390 rfl dX11_told_46 ?_
      obtain ⟨g7, hw⟩ := hw
      obtain ⟨g8, hw⟩ := hw
      refine V.icmp_lt hc (tgt := 60) dX11_told_49 (by decide) g7 g8 (fun c9 => ?_) (fun c9 => ?_)
      · replace hw := hw.1 c9
        refine V.aload_n (t := 11) hc dX11_told_60 rfl rfl ?_
        refine V.gR hc gR_X11_121 (i' := 0) rfl dX11_told_61 ?_
        refine V.gR hc gR_X11_393 (i' := 0) rfl dX11_told_64 ?_
        refine V.iload_n hc dX11_told_67 rfl rfl ?_
        obtain ⟨g10, hw⟩ := hw
        refine V.ald hc ak_44 g10 dX11_told_68 ?_
        exact V.iret hc hr dX11_told_69 hw
      · replace hw := hw.2 c9
        exact absurd hw (hX _ _)
  · replace hw := hw.2 c4
    refine V.aload_n (t := 11) hc dX11_told_29 rfl rfl ?_
    refine V.gR hc gR_X11_121 (i' := 0) rfl dX11_told_30 ?_
    refine V.gI hc gI_X11_390 rfl dX11_told_33 ?_
    exact V.iret hc hr dX11_told_36 hw
theorem qX11_image (G : GG) (l : Launch) (o : Int) (h : HP) (P : HP → Prop) (hw : wX11_image o h P) : CnV l G yX11_image cX11_image 1 5 [(21, o)] h P := by
  refine CnV.of (lo := [(21, o)]) (by decide) rfl rfl rfl ?_
  intro p e s m args below meth c hc hr
  have hc : VC G p (rmD 5 0) s m args meth c RX11 cX11_image 1 5 := hc
  refine V.aload_n (t := 11) hc dX11_image_0 rfl rfl ?_
  refine V.gR hc gR_X11_69 (i' := 11) rfl dX11_image_1 ?_
  refine V.aload_n (t := 11) hc dX11_image_4 rfl rfl ?_
  refine V.gR hc gR_X11_47 (i' := 10) rfl dX11_image_5 ?_
  refine V.callVV hc (qX6_copyFrom G l _ _ _ _ hw) mo_X6_copyFrom ml_X11_396 (by rfl) rfl rfl (as := [(16, 10)]) rfl rfl rfl rfl rfl ⟨Nat.zero_le _, Nat.zero_le _⟩ dX11_image_8 (fun h1 hw => ?_)
  refine V.aload_n (t := 11) hc dX11_image_11 rfl rfl ?_
  refine V.gR hc gR_X11_72 (i' := 4) rfl dX11_image_12 ?_
  refine V.aload_n (t := 11) hc dX11_image_15 rfl rfl ?_
  refine V.gR hc gR_X11_54 (i' := 3) rfl dX11_image_16 ?_
  refine V.callVV hc (qX5_copyFrom G l _ _ _ _ hw) mo_X5_copyFrom ml_X11_398 (by rfl) rfl rfl (as := [(15, 3)]) rfl rfl rfl rfl rfl ⟨Nat.zero_le _, Nat.zero_le _⟩ dX11_image_19 (fun h2 hw => ?_)
  refine V.aload_n (t := 11) hc dX11_image_22 rfl rfl ?_
  refine V.gR hc gR_X11_75 (i' := 6) rfl dX11_image_23 ?_
  refine V.aload_n (t := 11) hc dX11_image_26 rfl rfl ?_
  refine V.gR hc gR_X11_61 (i' := 5) rfl dX11_image_27 ?_
  refine V.callVV hc (qX7_copyFrom G l _ _ _ _ hw) mo_X7_copyFrom ml_X11_401 (by rfl) rfl rfl (as := [(17, 5)]) rfl rfl rfl rfl rfl ⟨Nat.zero_le _, Nat.zero_le _⟩ dX11_image_30 (fun h3 hw => ?_)
  refine V.aload_n (t := 11) hc dX11_image_33 rfl rfl ?_
  refine V.gR hc gR_X11_20 (i' := o) rfl dX11_image_34 ?_
  refine V.iconst hc dX11_image_37 ?_
  refine V.aload_n (t := 11) hc dX11_image_38 rfl rfl ?_
  refine V.gR hc gR_X11_78 (i' := o) rfl dX11_image_39 ?_
  refine V.iconst hc dX11_image_42 ?_
  refine V.aload_n (t := 11) hc dX11_image_43 rfl rfl ?_
  refine V.gR hc gR_X11_20 (i' := o) rfl dX11_image_44 ?_
  refine V.aln hc ak_46 dX11_image_47 ?_
  obtain ⟨g5, hw⟩ := hw
  refine V.acp hc ml_X11_404 rfl ak_46 ak_47 g5 dX11_image_48 (fun h4 e => ?_)
  replace hw := hw h4 e
  clear e
  refine V.aload_n (t := 11) hc dX11_image_51 rfl rfl ?_
  refine V.iconst hc dX11_image_52 ?_
  refine V.pZ hc pI_X11_65 rfl (by omega) dX11_image_53 (fun h6 e => ?_)
  replace hw := hw h6 e
  clear e
  exact V.vret hc hr dX11_image_56 hw
theorem qX11_restore (G : GG) (l : Launch) (o : Int) (h : HP) (P : Int → HP → Prop) (hw : wX11_restore o h P) : CnI l G yX11_restore cX11_restore 1 (some .boolean) 5 [(21, o)] h P := by
  refine CnI.of (lo := [(21, o)]) (by decide) rfl rfl rfl ?_
  intro p e s m args below meth c hc hr
  have hc : VC G p (rmD 5 0) s m args meth c RX11 cX11_restore 1 5 := hc
  refine V.aload_n (t := 11) hc dX11_restore_0 rfl rfl ?_
  refine V.gI hc gI_X11_65 rfl dX11_restore_1 ?_
  obtain ⟨g1, hw⟩ := hw
  refine V.if_ne hc (tgt := 9) dX11_restore_4 (by decide) g1 (fun c2 => ?_) (fun c2 => ?_)
  · replace hw := hw.1 c2
    refine V.aload_n (t := 11) hc dX11_restore_9 rfl rfl ?_
    refine V.gR hc gR_X11_47 (i' := 10) rfl dX11_restore_10 ?_
    refine V.aload_n (t := 11) hc dX11_restore_13 rfl rfl ?_
    refine V.gR hc gR_X11_69 (i' := 11) rfl dX11_restore_14 ?_
    refine V.callVV hc (qX6_copyFrom G l _ _ _ _ hw) mo_X6_copyFrom ml_X11_396 (by rfl) rfl rfl (as := [(16, 11)]) rfl rfl rfl rfl rfl ⟨Nat.zero_le _, Nat.zero_le _⟩ dX11_restore_17 (fun h3 hw => ?_)
    refine V.aload_n (t := 11) hc dX11_restore_20 rfl rfl ?_
    refine V.gR hc gR_X11_54 (i' := 3) rfl dX11_restore_21 ?_
    refine V.aload_n (t := 11) hc dX11_restore_24 rfl rfl ?_
    refine V.gR hc gR_X11_72 (i' := 4) rfl dX11_restore_25 ?_
    refine V.callVV hc (qX5_copyFrom G l _ _ _ _ hw) mo_X5_copyFrom ml_X11_398 (by rfl) rfl rfl (as := [(15, 4)]) rfl rfl rfl rfl rfl ⟨Nat.zero_le _, Nat.zero_le _⟩ dX11_restore_28 (fun h4 hw => ?_)
    refine V.aload_n (t := 11) hc dX11_restore_31 rfl rfl ?_
    refine V.gR hc gR_X11_61 (i' := 5) rfl dX11_restore_32 ?_
    refine V.aload_n (t := 11) hc dX11_restore_35 rfl rfl ?_
    refine V.gR hc gR_X11_75 (i' := 6) rfl dX11_restore_36 ?_
    refine V.callVV hc (qX7_copyFrom G l _ _ _ _ hw) mo_X7_copyFrom ml_X11_401 (by rfl) rfl rfl (as := [(17, 6)]) rfl rfl rfl rfl rfl ⟨Nat.zero_le _, Nat.zero_le _⟩ dX11_restore_39 (fun h5 hw => ?_)
    refine V.aload_n (t := 11) hc dX11_restore_42 rfl rfl ?_
    refine V.gR hc gR_X11_78 (i' := o) rfl dX11_restore_43 ?_
    refine V.iconst hc dX11_restore_46 ?_
    refine V.aload_n (t := 11) hc dX11_restore_47 rfl rfl ?_
    refine V.gR hc gR_X11_20 (i' := o) rfl dX11_restore_48 ?_
    refine V.iconst hc dX11_restore_51 ?_
    refine V.aload_n (t := 11) hc dX11_restore_52 rfl rfl ?_
    refine V.gR hc gR_X11_20 (i' := o) rfl dX11_restore_53 ?_
    refine V.aln hc ak_46 dX11_restore_56 ?_
    obtain ⟨g7, hw⟩ := hw
    refine V.acp hc ml_X11_404 rfl ak_47 ak_46 g7 dX11_restore_57 (fun h6 e => ?_)
    replace hw := hw h6 e
    clear e
    refine V.iconst hc dX11_restore_60 ?_
    exact V.zret hc hr dX11_restore_61 (by omega) hw
  · replace hw := hw.2 c2
    refine V.iconst hc dX11_restore_7 ?_
    exact V.zret hc hr dX11_restore_8 (by omega) hw
