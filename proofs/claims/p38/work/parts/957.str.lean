/-! constant texts: their length and their signs, by the JDK's own methods -/
theorem str_all : ∀ k : Nat, k < 11 → strLen.getD k 0 < 2147483648 ∧ ∀ j : Nat, j < strLen.getD k 0 → (((strByt.getD k []).getD j 0) &&& 255 = (strByt.getD k []).getD j 0) ∧ ((((strByt.getD k []).getD j 0).toUInt32 % 65536).toInt32 = (strByt.getD k []).getD j 0) := by decide +kernel
theorem str_nar : ∀ k : Nat, k < 11 → ∀ j : Nat, j < strLen.getD k 0 → narrow .char (.int ((strByt.getD k []).getD j 0)) = .int ((strByt.getD k []).getD j 0) := by decide +kernel
theorem mo_J0_length_8abf5 : MOv yJ0_length_8abf5 cJ0_length_8abf5 1 (some .int) 0 := ⟨tin 864 (by decide +kernel) (by decide), tin 865 (by decide +kernel) (by decide), tin 45 (by decide +kernel) (by decide), tin 866 (by decide +kernel) (by decide), by decide +kernel, by decide +kernel⟩
theorem mo_J0_coder_7d493 : MOv yJ0_coder_7d493 cJ0_coder_7d493 1 (some .byte) 0 := ⟨tin 868 (by decide +kernel) (by decide), tin 869 (by decide +kernel) (by decide), tin 45 (by decide +kernel) (by decide), tin 870 (by decide +kernel) (by decide), by decide +kernel, by decide +kernel⟩
theorem mo_J0_charAt_5068e : MOv yJ0_charAt_5068e cJ0_charAt_5068e 2 (some .char) 1 := ⟨tin 874 (by decide +kernel) (by decide), tin 875 (by decide +kernel) (by decide), tin 45 (by decide +kernel) (by decide), tin 876 (by decide +kernel) (by decide), by decide +kernel, by decide +kernel⟩
theorem mo_J0_isLatin1_aae02 : MOv yJ0_isLatin1_aae02 cJ0_isLatin1_aae02 1 (some .boolean) 0 := ⟨tin 878 (by decide +kernel) (by decide), tin 879 (by decide +kernel) (by decide), tin 45 (by decide +kernel) (by decide), tin 880 (by decide +kernel) (by decide), by decide +kernel, by decide +kernel⟩
theorem mo_J1_charAt_3b067 : MOs yJ1_charAt_3b067 cJ1_charAt_3b067 2 (some .char) 2 := ⟨tin 882 (by decide +kernel) (by decide), tin 46 (by decide +kernel) (by decide), tin 883 (by decide +kernel) (by decide), by decide +kernel, by decide +kernel⟩
theorem mo_J0_checkIndex_df160 : MOs yJ0_checkIndex_df160 cJ0_checkIndex_df160 2 none 2 := ⟨tin 885 (by decide +kernel) (by decide), tin 45 (by decide +kernel) (by decide), tin 886 (by decide +kernel) (by decide), by decide +kernel, by decide +kernel⟩
theorem mo_J3_checkIndex_8e157 : MOs yJ3_checkIndex_8e157 cJ3_checkIndex_8e157 3 (some .int) 3 := ⟨tin 890 (by decide +kernel) (by decide), tin 47 (by decide +kernel) (by decide), tin 891 (by decide +kernel) (by decide), by decide +kernel, by decide +kernel⟩
theorem ml_J0_335 : Cond.methodLink RJ0 335 yJ0_coder_7d493 ∈ tblG := tin 867 (by decide +kernel) (by decide)
theorem ml_J0_492 : Cond.methodLink RJ0 492 yJ0_isLatin1_aae02 ∈ tblG := tin 877 (by decide +kernel) (by decide)
theorem ml_J0_495 : Cond.methodLink RJ0 495 yJ1_charAt_3b067 ∈ tblG := tin 881 (by decide +kernel) (by decide)
theorem ml_J1_9 : Cond.methodLink RJ1 9 yJ0_checkIndex_df160 ∈ tblG := tin 884 (by decide +kernel) (by decide)
theorem ml_J0_1059 : Cond.methodLink RJ0 1059 yJ3_checkIndex_8e157 ∈ tblG := tin 889 (by decide +kernel) (by decide)
theorem fk_J0_9 : Cond.fieldLink RJ0 9 "java/lang/String" "value" "[B" ∈ tblG := tin 1067 (by decide +kernel) (by decide)
theorem fk_J0_15 : Cond.fieldLink RJ0 15 "java/lang/String" "coder" "B" ∈ tblG := tin 1068 (by decide +kernel) (by decide)
theorem fk_J0_38 : Cond.fieldLink RJ0 38 "java/lang/String" "COMPACT_STRINGS" "Z" ∈ tblG := tin 871 (by decide +kernel) (by decide)
theorem fk_J0_1053 : Cond.fieldLink RJ0 1053 "jdk/internal/util/Preconditions" "SIOOBE_FORMATTER" "Ljava/util/function/BiFunction;" ∈ tblG := tin 887 (by decide +kernel) (by decide)
section VStr
variable {G : GG} {p : Program} {l : Launch} {e : Jvm.Env} {R : Room} {s : State} {m : MethodId} {args : Array Value} {below : List Frame} {meth : Method} {c : Code} {Q : State → Prop} {own : String} {cc : ByteArray} {nL d pc : Nat} {lo st : List TV} {h : HP} {n : Nat}
theorem V.aloadV_n (hc : VC G p R s m args meth c own cc nL d) {k : Fin 4} {i : Nat} {x : Int} (hd : decode cc pc = .ok (.aload_n k, 1)) (hi : (k : Nat) = i) (hl : lo[i]? = some (7, x))
    (k1 : V G p l e R s m args below meth c Q nL (pc + 1) lo ((7, x) :: st) h n) : V G p l e R s m args below meth c Q nL pc lo st h n := by
  intro ho hs H L ls hL hP hS
  exact lv_aload_n hc.1 hc.2.1 hd hi (hL.2.2 i _ hl (by show (7 : Nat) ≠ 1; omega)).2 (k1 ho ⟨okS_at ho hl, hs⟩ H L ls hL hP hS)
theorem V.gsC (hc : VC G p R s m args meth c own cc nL d) {idx : Nat} (hl : Cond.fieldLink own idx "java/lang/String" "COMPACT_STRINGS" "Z" ∈ tblG) (hd : decode cc pc = .ok (.getstatic idx, 3))
    (k1 : V G p l e R s m args below meth c Q nL (pc + 3) lo ((0, 1) :: st) h n) : V G p l e R s m args below meth c Q nL pc lo st h n := by
  intro ho hs H L ls hL hP hS
  obtain ⟨e1, e2, e3, e4, e5, ⟨f1, f2, f3, f4, f5, f6, ⟨f7, f70, f71⟩, f8, f9⟩, e7⟩ := hc
  have k2 := k1 ho ⟨trivial, hs⟩ H L ls hL hP hS
  have ev : cv G (0, 1) = .int 1 := rfl
  rw [List.map_cons, ev] at k2
  exact va_gets e1 e2 f70 hS e4 (e5 _ hl) (fun _ q => q) hd k2
theorem V.gsF (hc : VC G p R s m args meth c own cc nL d) {idx : Nat} (hl : Cond.fieldLink own idx "jdk/internal/util/Preconditions" "SIOOBE_FORMATTER" "Ljava/util/function/BiFunction;" ∈ tblG) (hd : decode cc pc = .ok (.getstatic idx, 3))
    (k1 : V G p l e R s m args below meth c Q nL (pc + 3) lo ((8, 0) :: st) h n) : V G p l e R s m args below meth c Q nL pc lo st h n := by
  intro ho hs H L ls hL hP hS
  obtain ⟨e1, e2, e3, e4, e5, ⟨f1, f2, f3, f4, f5, f6, ⟨f7, f70, f71⟩, f8, f9⟩, e7⟩ := hc
  exact va_gets e1 e2 f71 hS e4 (e5 _ hl) (fun _ q => q) hd (k1 ho ⟨trivial, hs⟩ H L ls hL hP hS)
theorem V.sgV (hc : VC G p R s m args meth c own cc nL d) {idx : Nat} {k : Int} (hl : Cond.fieldLink own idx "java/lang/String" "value" "[B" ∈ tblG) (hd : decode cc pc = .ok (.getfield idx, 3))
    (k1 : V G p l e R s m args below meth c Q nL (pc + 3) lo ((7, k) :: st) h n) : V G p l e R s m args below meth c Q nL pc lo ((6, k) :: st) h n := by
  intro ho hs H L ls hL hP hS
  obtain ⟨e1, e2, e3, e4, e5, ⟨f1, f2, f3, f4, f5, f6, ⟨f7, f70, f71⟩, f8, f9⟩, e7⟩ := hc
  have hk : k.toNat < strN := by have q1 : 0 ≤ k := hs.1.1; have q2 : k < (strN : Int) := hs.1.2; omega
  exact vk_getf e1 e2 (f7.1 _ hk).2.2.1 hS e4 (e5 _ hl) (fun _ q => q) hd (k1 ho ⟨hs.1, hs.2⟩ H L ls hL hP hS)
theorem V.sgC (hc : VC G p R s m args meth c own cc nL d) {idx : Nat} {k : Int} (hl : Cond.fieldLink own idx "java/lang/String" "coder" "B" ∈ tblG) (hd : decode cc pc = .ok (.getfield idx, 3))
    (k1 : V G p l e R s m args below meth c Q nL (pc + 3) lo ((0, 0) :: st) h n) : V G p l e R s m args below meth c Q nL pc lo ((6, k) :: st) h n := by
  intro ho hs H L ls hL hP hS
  obtain ⟨e1, e2, e3, e4, e5, ⟨f1, f2, f3, f4, f5, f6, ⟨f7, f70, f71⟩, f8, f9⟩, e7⟩ := hc
  have hk : k.toNat < strN := by have q1 : 0 ≤ k := hs.1.1; have q2 : k < (strN : Int) := hs.1.2; omega
  have k2 := k1 ho ⟨trivial, hs.2⟩ H L ls hL hP hS
  have ev : cv G (0, 0) = .int 0 := rfl
  rw [List.map_cons, ev] at k2
  exact vk_getf e1 e2 (f7.1 _ hk).2.1 hS e4 (e5 _ hl) (fun _ q => q) hd k2
theorem V.sln (hc : VC G p R s m args meth c own cc nL d) {k : Int} (hd : decode cc pc = .ok (.arraylength, 1))
    (k1 : V G p l e R s m args below meth c Q nL (pc + 1) lo ((0, strL k) :: st) h n) : V G p l e R s m args below meth c Q nL pc lo ((7, k) :: st) h n := by
  intro ho hs H L ls hL hP hS
  obtain ⟨e1, e2, e3, e4, e5, ⟨f1, f2, f3, f4, f5, f6, ⟨f7, f70, f71⟩, f8, f9⟩, e7⟩ := hc
  have hk : k.toNat < strN := by have q1 : 0 ≤ k := hs.1.1; have q2 : k < (strN : Int) := hs.1.2; omega
  exact va_tlen e1 e2 (f7.1 _ hk).2.2.2 hS (v := Int32.ofInt (strL k)) (by unfold strL; rw [← Int32.ofInt_eq_ofNat]) hd (k1 ho ⟨trivial, hs.2⟩ H L ls hL hP hS)
theorem V.sbld (hc : VC G p R s m args meth c own cc nL d) {k j : Int} (hj : 0 ≤ j ∧ j < strL k) (hd : decode cc pc = .ok (.baload, 1))
    (k1 : V G p l e R s m args below meth c Q nL (pc + 1) lo ((0, strC k j) :: st) h n) : V G p l e R s m args below meth c Q nL pc lo ((0, j) :: (7, k) :: st) h n := by
  intro ho hs H L ls hL hP hS
  obtain ⟨e1, e2, e3, e4, e5, ⟨f1, f2, f3, f4, f5, f6, ⟨f7, f70, f71⟩, f8, f9⟩, e7⟩ := hc
  have hk : k.toNat < strN := by have q1 : 0 ≤ k := hs.2.1.1; have q2 : k < (strN : Int) := hs.2.1.2; omega
  have hlt := (str_all _ hk).1
  have k2 := k1 ho ⟨trivial, hs.2.2⟩ H L ls hL hP hS
  have ev : cv G (0, strC k j) = .int ((strByt.getD k.toNat []).getD j.toNat 0) := by
    show Value.int (Int32.ofInt (strC k j)) = _
    unfold strC
    rw [Int32.ofInt_toInt]
  rw [List.map_cons, ev] at k2
  have hj2 : j < ((strLen.getD k.toNat 0 : Nat) : Int) := hj.2
  exact va_tb e1 e2 (f7.1 _ hk).2.2.2 hS (i := Int32.ofInt j) (ofInt_in hj.1 hj2 hlt) (by show Value.int _ = _; rw [ofInt_clamp hj.1 (by omega)]) hd k2
theorem V.i2c (hc : VC G p R s m args meth c own cc nL d) {x : Int} (hx : ((Int32.ofInt x).toUInt32 % 65536).toInt32 = Int32.ofInt x) (hd : decode cc pc = .ok (.i2c, 1))
    (k1 : V G p l e R s m args below meth c Q nL (pc + 1) lo ((0, x) :: st) h n) : V G p l e R s m args below meth c Q nL pc lo ((0, x) :: st) h n := by
  intro ho hs H L ls hL hP hS
  exact lv_i2c hc.1 hc.2.1 hd hx (k1 ho hs H L ls hL hP hS)
theorem V.nret (hc : VC G p R s m args meth c own cc nL d) {x : Int} {ty : FieldType} {P : Int → HP → Prop} (hr : meth.sig.returnType = some ty) (hn : narrow ty (.int (Int32.ofInt x)) = .int (Int32.ofInt x)) (hd : decode cc pc = .ok (.ireturn, 1)) (hp : P x h) : V G p l e R s m args below meth c (MQ below (QI G P) args s 0 0 (va_Aof G)) nL pc lo [(0, x)] h 0 := by
  intro ho hs H L ls hL hP hS
  have hlocks := hc.2.2.2.2.2.2.1
  exact W.zret (v := Int32.ofInt x) hc.1 hc.2.1 hr hn (fun t ht hW => ⟨⟨_, (x, h), rfl, ⟨rfl, hp⟩, by show va_P G.2.1 vwCl (mkW G h) t.heap; rw [ht]; exact hP⟩, hS.F ht⟩) hS.2.2 hd hlocks
theorem V.callSt {y : MethodName} {b : ByteArray} {mL d' np idx : Nat} {i : Int} {ret : Option FieldType} {as st0 : List TV} {P : Int → HP → Prop} (hc : VC G p R s m args meth c own cc nL d) (hM : CnI l G y b mL ret d' ((6, i) :: as) h P) (hmo : MOv y b mL ret np) (hl : Cond.methodLink own idx y ∈ tblG) (hcl : y.cls = "java/lang/String")
    (hst : st0 = as.reverse ++ (6, i) :: st) (hnp : as.length = np) (hdd : Nat.ble (d' + 1) d = true) (hm : Nat.ble mL 21 = true) (hcat : Nat.ble (catS st) 8 = true) (hn : n ≤ R.cells ∧ 6 * n ≤ R.slots) (hd : decode cc pc = .ok (.invokevirtual idx, 3))
    (k1 : ∀ (x : Int) (h' : HP), P x h' → V G p l e R s m args below meth c Q nL (pc + 3) lo ((0, x) :: st) h' n) : V G p l e R s m args below meth c Q nL pc lo st0 h n := by
  intro ho hs H L ls hL hP hS
  subst hst
  have hs' := okS_app.mp hs
  have hsa : okS ((6, i) :: as) := ⟨hs'.2.1, okS_rev.mp hs'.1⟩
  have hk : i.toNat < strN := by have q1 : 0 ≤ i := hs'.2.1.1; have q2 : i < (strN : Int) := hs'.2.1.2; omega
  have hrc := vk_recv hc.2.2.2.2.2.1.2.2.2.2.2.2.1.1 hk hS
  rw [← hcl] at hrc
  have hr9 := room_ok (mc := 0) hc hdd hm
  have e5 := hc.2.2.2.2.1
  have hE := hc.2.2.2.2.2.1
  have hcw := Nat.le_trans (catS_le G st) (Nat.le_of_ble_eq_true hcat)
  refine va_calli (va_runV (As := as.map (cv G)) (rest := st.map (cv G)) ⟨hc.1, hc.2.1, hc.2.2.1, hc.2.2.2.1, e5⟩ hM (cwV np e5 (hmo.ws hl) rfl rfl rfl ⟨rfl, hmo.2.2.2.2.1.1, hmo.2.2.2.2.1.2, hmo.2.2.2.2.2⟩ hr9) ⟨ePc_blind G _ h, hrc, ePc_of hsa hP hS hE⟩ rfl (by rw [List.length_map]; exact hnp) hL.1 (by simp [List.map_append, List.map_reverse]; rfl) (lv_room hcw) hd ⟨hn.1, hn.2⟩) hS (fun _ _ q => q) (fun _ q => q) (fun r u t H1 L1 ht hvm hw hB hz hk1 hS1 => ?_)
  obtain ⟨hr1, hp1⟩ := hw
  have hB1 : va_P G.2.1 vwCl (mkW G u.2) t.heap := hB
  rw [ht] at hB1
  have := k1 u.1 u.2 hp1 ho ⟨trivial, hs'.2.2⟩ H1 L1 ls hL hB1 hS1
  rw [hr1]
  exact this
end VStr
theorem qJ0_coder (G : GG) (l : Launch) (k : Int) (h : HP) (P : Int → HP → Prop) (hw : P 0 h) : CnI l G yJ0_coder_7d493 cJ0_coder_7d493 1 (some .byte) 1 [(6, k)] h P := by
  refine CnI.of (lo := [(6, k)]) (by decide) rfl rfl rfl ?_
  intro p e s m args below meth c hc hr
  have hc : VC G p (rmD 1 0) s m args meth c RJ0 cJ0_coder_7d493 1 1 := hc
  refine V.gsC hc fk_J0_38 dJ0_coder_7d493_0 ?_
  refine V.if_eq hc (tgt := 13) dJ0_coder_7d493_3 (by decide) (by omega) (fun q => absurd q (by decide)) (fun _ => ?_)
  refine V.aloadS_n hc dJ0_coder_7d493_6 rfl rfl ?_
  refine V.sgC hc fk_J0_15 dJ0_coder_7d493_7 ?_
  refine V.goto hc (tgt := 14) dJ0_coder_7d493_10 (by decide) ?_
  exact V.nret hc hr (by decide) dJ0_coder_7d493_14 hw
theorem qJ0_isLatin1 (G : GG) (l : Launch) (k : Int) (h : HP) (P : Int → HP → Prop) (hw : P 1 h) : CnI l G yJ0_isLatin1_aae02 cJ0_isLatin1_aae02 1 (some .boolean) 1 [(6, k)] h P := by
  refine CnI.of (lo := [(6, k)]) (by decide) rfl rfl rfl ?_
  intro p e s m args below meth c hc hr
  have hc : VC G p (rmD 1 0) s m args meth c RJ0 cJ0_isLatin1_aae02 1 1 := hc
  refine V.gsC hc fk_J0_38 dJ0_isLatin1_aae02_0 ?_
  refine V.if_eq hc (tgt := 17) dJ0_isLatin1_aae02_3 (by decide) (by omega) (fun q => absurd q (by decide)) (fun _ => ?_)
  refine V.aloadS_n hc dJ0_isLatin1_aae02_6 rfl rfl ?_
  refine V.sgC hc fk_J0_15 dJ0_isLatin1_aae02_7 ?_
  refine V.if_ne hc (tgt := 17) dJ0_isLatin1_aae02_10 (by decide) (by omega) (fun q => absurd rfl q) (fun _ => ?_)
  refine V.iconst hc dJ0_isLatin1_aae02_13 ?_
  refine V.goto hc (tgt := 18) dJ0_isLatin1_aae02_14 (by decide) ?_
  exact V.nret hc hr (by decide) dJ0_isLatin1_aae02_18 hw
theorem qJ0_length (G : GG) (l : Launch) (k : Int) (h : HP) (P : Int → HP → Prop) (hw : P (bShr (strL k) 0) h) : CnI l G yJ0_length_8abf5 cJ0_length_8abf5 1 (some .int) 2 [(6, k)] h P := by
  refine CnI.of (lo := [(6, k)]) (by decide) rfl rfl rfl ?_
  intro p e s m args below meth c hc hr
  have hc : VC G p (rmD 2 0) s m args meth c RJ0 cJ0_length_8abf5 1 2 := hc
  refine V.aloadS_n hc dJ0_length_8abf5_0 rfl rfl ?_
  refine V.sgV hc fk_J0_9 dJ0_length_8abf5_1 ?_
  refine V.sln hc dJ0_length_8abf5_4 ?_
  refine V.aloadS_n hc dJ0_length_8abf5_5 rfl rfl ?_
  refine V.callSt (P := fun x h' => x = 0 ∧ h' = h) hc (qJ0_coder G l k h _ ⟨rfl, rfl⟩) mo_J0_coder_7d493 ml_J0_335 rfl (as := []) rfl rfl rfl rfl rfl ⟨Nat.zero_le _, Nat.zero_le _⟩ dJ0_length_8abf5_6 (fun x h' hx => ?_)
  obtain ⟨rfl, rfl⟩ := hx
  refine V.ishr hc dJ0_length_8abf5_9 ?_
  exact V.iret hc hr dJ0_length_8abf5_10 hw
theorem qJ3_checkIndex (G : GG) (l : Launch) (i n : Int) (h : HP) (P : Int → HP → Prop) (hi : 0 ≤ i ∧ i < n) (hn : n < 2147483648) (hw : P i h) : CnI l G yJ3_checkIndex_8e157 cJ3_checkIndex_8e157 3 (some .int) 1 [(0, i), (0, n), (8, 0)] h P := by
  refine CnI.of (lo := [(0, i), (0, n), (8, 0)]) (by decide) rfl rfl rfl ?_
  intro p e s m args below meth c hc hr
  have hc : VC G p (rmD 1 0) s m args meth c RJ3 cJ3_checkIndex_8e157 3 1 := hc
  refine V.iload_n hc dJ3_checkIndex_8e157_0 rfl rfl ?_
  refine V.if_lt hc (tgt := 9) dJ3_checkIndex_8e157_1 (by decide) (by omega) (fun q => absurd q (by omega)) (fun _ => ?_)
  refine V.iload_n hc dJ3_checkIndex_8e157_4 rfl rfl ?_
  refine V.iload_n hc dJ3_checkIndex_8e157_5 rfl rfl ?_
  refine V.icmp_lt hc (tgt := 16) dJ3_checkIndex_8e157_6 (by decide) (by omega) (by omega) (fun _ => ?_) (fun q => absurd hi.2 q)
  refine V.iload_n hc dJ3_checkIndex_8e157_16 rfl rfl ?_
  exact V.iret hc hr dJ3_checkIndex_8e157_17 hw
theorem qJ0_checkIndex (G : GG) (l : Launch) (i n : Int) (h : HP) (P : HP → Prop) (hi : 0 ≤ i ∧ i < n) (hn : n < 2147483648) (hw : P h) : CnV l G yJ0_checkIndex_df160 cJ0_checkIndex_df160 2 2 [(0, i), (0, n)] h P := by
  refine CnV.of (lo := [(0, i), (0, n)]) (by decide) rfl rfl rfl ?_
  intro p e s m args below meth c hc hr
  have hc : VC G p (rmD 2 0) s m args meth c RJ0 cJ0_checkIndex_df160 2 2 := hc
  refine V.iload_n hc dJ0_checkIndex_df160_0 rfl rfl ?_
  refine V.iload_n hc dJ0_checkIndex_df160_1 rfl rfl ?_
  refine V.gsF hc fk_J0_1053 dJ0_checkIndex_df160_2 ?_
  refine V.callSI (P := fun x h' => x = i ∧ h' = h) hc (qJ3_checkIndex G l i n h _ hi hn ⟨rfl, rfl⟩) mo_J3_checkIndex_8e157 ml_J0_1059 (as := [(0, i), (0, n), (8, 0)]) rfl rfl rfl rfl rfl ⟨Nat.zero_le _, Nat.zero_le _⟩ dJ0_checkIndex_df160_5 (fun x h' hx => ?_)
  obtain ⟨rfl, rfl⟩ := hx
  refine V.pop hc dJ0_checkIndex_df160_8 (by show (0 : Nat) ≠ 2; omega) ?_
  exact V.vret hc hr dJ0_checkIndex_df160_9 hw
theorem str_and {k j : Int} (hk : 0 ≤ k ∧ k < 11) (hj : 0 ≤ j ∧ j < strL k) : bAnd (strC k j) 255 = strC k j := by
  have hj2 : j < ((strLen.getD k.toNat 0 : Nat) : Int) := hj.2
  have q := ((str_all k.toNat (by omega)).2 j.toNat (by omega)).1
  unfold bAnd strC
  rw [Int32.ofInt_toInt]
  exact congrArg Int32.toInt q
theorem qJ1_charAt (G : GG) (l : Launch) (k j : Int) (h : HP) (P : Int → HP → Prop) (hk : 0 ≤ k ∧ k < 11) (hj : 0 ≤ j ∧ j < strL k) (hw : P (strC k j) h) : CnI l G yJ1_charAt_3b067 cJ1_charAt_3b067 2 (some .char) 3 [(7, k), (0, j)] h P := by
  refine CnI.of (lo := [(7, k), (0, j)]) (by decide) rfl rfl rfl ?_
  intro p e s m args below meth c hc hr
  have hc : VC G p (rmD 3 0) s m args meth c RJ1 cJ1_charAt_3b067 2 3 := hc
  have hk2 : k.toNat < 11 := by omega
  have hj2 : j < ((strLen.getD k.toNat 0 : Nat) : Int) := hj.2
  have hlt := (str_all _ hk2).1
  refine V.iload_n hc dJ1_charAt_3b067_0 rfl rfl ?_
  refine V.aloadV_n hc dJ1_charAt_3b067_1 rfl rfl ?_
  refine V.sln hc dJ1_charAt_3b067_2 ?_
  refine V.callSV hc (qJ0_checkIndex G l j (strL k) h (fun h' => h' = h) hj (by unfold strL; omega) rfl) mo_J0_checkIndex_df160 ml_J1_9 (as := [(0, j), (0, strL k)]) rfl rfl rfl rfl rfl ⟨Nat.zero_le _, Nat.zero_le _⟩ dJ1_charAt_3b067_3 (fun h' hx => ?_)
  obtain rfl := hx
  refine V.aloadV_n hc dJ1_charAt_3b067_6 rfl rfl ?_
  refine V.iload_n hc dJ1_charAt_3b067_7 rfl rfl ?_
  refine V.sbld hc hj dJ1_charAt_3b067_8 ?_
  refine V.sipush hc dJ1_charAt_3b067_9 (by decide) ?_
  refine V.iand hc dJ1_charAt_3b067_12 ?_
  rw [str_and hk hj]
  refine V.i2c hc (by unfold strC; rw [Int32.ofInt_toInt]; exact ((str_all k.toNat hk2).2 j.toNat (by omega)).2) dJ1_charAt_3b067_13 ?_
  exact V.nret hc hr (by unfold strC; rw [Int32.ofInt_toInt]; exact str_nar k.toNat hk2 j.toNat (by omega)) dJ1_charAt_3b067_14 hw
theorem qJ0_charAt (G : GG) (l : Launch) (k j : Int) (h : HP) (P : Int → HP → Prop) (hk : 0 ≤ k ∧ k < 11) (hj : 0 ≤ j ∧ j < strL k) (hw : P (strC k j) h) : CnI l G yJ0_charAt_5068e cJ0_charAt_5068e 2 (some .char) 4 [(6, k), (0, j)] h P := by
  refine CnI.of (lo := [(6, k), (0, j)]) (by decide) rfl rfl rfl ?_
  intro p e s m args below meth c hc hr
  have hc : VC G p (rmD 4 0) s m args meth c RJ0 cJ0_charAt_5068e 2 4 := hc
  have hk2 : k.toNat < 11 := by omega
  have hj2 : j < ((strLen.getD k.toNat 0 : Nat) : Int) := hj.2
  refine V.aloadS_n hc dJ0_charAt_5068e_0 rfl rfl ?_
  refine V.callSt (P := fun x h' => x = 1 ∧ h' = h) hc (qJ0_isLatin1 G l k h _ ⟨rfl, rfl⟩) mo_J0_isLatin1_aae02 ml_J0_492 rfl (as := []) rfl rfl rfl rfl rfl ⟨Nat.zero_le _, Nat.zero_le _⟩ dJ0_charAt_5068e_1 (fun x h' hx => ?_)
  obtain ⟨rfl, rfl⟩ := hx
  refine V.if_eq hc (tgt := 16) dJ0_charAt_5068e_4 (by decide) (by omega) (fun q => absurd q (by decide)) (fun _ => ?_)
  refine V.aloadS_n hc dJ0_charAt_5068e_7 rfl rfl ?_
  refine V.sgV hc fk_J0_9 dJ0_charAt_5068e_8 ?_
  refine V.iload_n hc dJ0_charAt_5068e_11 rfl rfl ?_
  refine V.callSI (P := fun x h'' => x = strC k j ∧ h'' = h') hc (qJ1_charAt G l k j h' _ hk hj ⟨rfl, rfl⟩) mo_J1_charAt_3b067 ml_J0_495 (as := [(7, k), (0, j)]) rfl rfl rfl rfl rfl ⟨Nat.zero_le _, Nat.zero_le _⟩ dJ0_charAt_5068e_12 (fun x h'' hx => ?_)
  obtain ⟨rfl, rfl⟩ := hx
  exact V.nret hc hr (by unfold strC; rw [Int32.ofInt_toInt]; exact str_nar k.toNat hk2 j.toNat (by omega)) dJ0_charAt_5068e_15 hw
theorem str_shr : ∀ k : Nat, k < 11 → bShr ((strLen.getD k 0 : Nat) : Int) 0 = ((strLen.getD k 0 : Nat) : Int) := by decide +kernel
section VStr2
variable {G : GG} {p : Program} {l : Launch} {e : Jvm.Env} {R : Room} {s : State} {m : MethodId} {args : Array Value} {below : List Frame} {meth : Method} {c : Code} {Q : State → Prop} {own : String} {cc : ByteArray} {nL d pc : Nat} {lo st : List TV} {h : HP} {n : Nat}
theorem V.sLen (hc : VC G p R s m args meth c own cc nL d) {idx : Nat} {k : Int} (hl : Cond.methodLink own idx yJ0_length_8abf5 ∈ tblG) (hdd : Nat.ble 5 d = true) (hcat : Nat.ble (catS st) 8 = true) (hd : decode cc pc = .ok (.invokevirtual idx, 3))
    (k1 : V G p l e R s m args below meth c Q nL (pc + 3) lo ((0, strL k) :: st) h 0) : V G p l e R s m args below meth c Q nL pc lo ((6, k) :: st) h 0 := by
  intro ho hs
  have hk : k.toNat < 11 := by have q1 : 0 ≤ k := hs.1.1; have q2 : k < (strN : Int) := hs.1.2; have : strN = 11 := rfl; omega
  have q := str_shr _ hk
  exact V.callSt (P := fun x h' => x = strL k ∧ h' = h) hc (qJ0_length G l k h _ ⟨q, rfl⟩) mo_J0_length_8abf5 hl rfl (as := []) rfl rfl (Nat.ble_eq_true_of_le (by have := Nat.le_of_ble_eq_true hdd; omega)) rfl hcat ⟨Nat.zero_le _, Nat.zero_le _⟩ hd (fun x h' hx => by obtain ⟨rfl, rfl⟩ := hx; exact k1) ho hs
theorem V.sChar (hc : VC G p R s m args meth c own cc nL d) {idx : Nat} {k j : Int} (hl : Cond.methodLink own idx yJ0_charAt_5068e ∈ tblG) (hdd : Nat.ble 5 d = true) (hcat : Nat.ble (catS st) 8 = true) (hj : 0 ≤ j ∧ j < strL k) (hd : decode cc pc = .ok (.invokevirtual idx, 3))
    (k1 : V G p l e R s m args below meth c Q nL (pc + 3) lo ((0, strC k j) :: st) h 0) : V G p l e R s m args below meth c Q nL pc lo ((0, j) :: (6, k) :: st) h 0 := by
  intro ho hs
  have q1 : 0 ≤ k := hs.2.1.1
  have q2 : k < (strN : Int) := hs.2.1.2
  have q3 : strN = 11 := rfl
  exact V.callSt (P := fun x h' => x = strC k j ∧ h' = h) hc (qJ0_charAt G l k j h _ ⟨q1, by omega⟩ hj ⟨rfl, rfl⟩) mo_J0_charAt_5068e hl rfl (as := [(0, j)]) rfl rfl (Nat.ble_eq_true_of_le (by have := Nat.le_of_ble_eq_true hdd; omega)) rfl hcat ⟨Nat.zero_le _, Nat.zero_le _⟩ hd (fun x h' hx => by obtain ⟨rfl, rfl⟩ := hx; exact k1) ho hs
end VStr2
