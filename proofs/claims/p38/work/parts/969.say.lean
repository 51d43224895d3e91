/-! say: a long as a local, walked by hand -/
theorem say_num : ∀ q ∈ sayL, ∀ k : Nat, k < q.2.toNat → ((Int64.ofInt q.1 >>> ((Int32.ofInt 8 * Int32.ofInt (k : Int)).toInt64 &&& 63)).toInt32 &&& Int32.ofInt 255) = Int32.ofInt (q.1 / 256 ^ k % 256) := by decide +kernel
theorem say_le : ∀ q ∈ sayL, 1 ≤ q.2 ∧ q.2 ≤ 6 := by decide +kernel
theorem ofInt_m1 (k : Nat) (hk : k < 7) : (Int32.ofInt ((k : Int) - 1) < 0 ↔ k = 0) := by
  rw [show (0 : Int32) = Int32.ofInt 0 from rfl, ofInt_lt (by unfold inR; omega) inR_0]
  omega
theorem say_loop {G : GG} {p : Program} {l : Launch} {e : Jvm.Env} {s : State} {m : MethodId} {args : Array Value} {below : List Frame} {meth : Method} {c : Code} {P : HP → Prop} (hc : VC G p (rmD 4 0) s m args meth c RL cL_say 6 4) (hr : meth.sig.returnType = none) (hG : LG G) {o v n : Int} (hO : OB G o) (hv : (v, n) ∈ sayL) {a1 a2 : Nat} (ha1 : cv G (3, o) = .ref a1) (ha2 : cv G (3, 3) = .ref a2) : ∀ (j : Nat) (h : HP) (H : Heap) (L : List Loc) (ls : Array Slot), lv_has ls 6 [(5, .int (Int32.ofInt ((j : Int) - 1))), (0, .ref a1), (1, .ref a2), (2, .long (Int64.ofInt v)), (4, .int (Int32.ofInt n))] → va_P G.2.1 vwCl (mkW G h) H → va_S (va_Aof G) s.heap H L → (j : Int) ≤ n → sayK G o v j P h → W p l e (rmD 4 0) s m args below meth c H L 0 0 (MQ below (QV G P) args s 0 0 (va_Aof G)) (F0 m 6 ls []) := by
  have n6 := say_le _ hv
  have n6' : 1 ≤ n ∧ n ≤ 6 := n6
  intro j
  induction j with
  | zero =>
    intro h H L ls hl hP hS hj hp
    refine lv_iload hc.1 hc.2.1 dL_say_6 (lv_at hl 0 rfl) ?_
    refine lv_if_lt hc.1 hc.2.1 dL_say_8 (tgt := 34) (by decide) (fun _ => ?_) (fun q => absurd ((ofInt_m1 0 (by decide)).mpr rfl) q)
    exact W.vret hc.1 hc.2.1 hr (fun t ht hW => ⟨⟨h, rfl, hp, by show va_P G.2.1 vwCl (mkW G h) t.heap; rw [ht]; exact hP⟩, hS.F ht⟩) hS.2.2 dL_say_34 hc.2.2.2.2.2.2.1
  | succ k ih =>
    intro h H L ls hl hP hS hj hp
    have ek : ((k + 1 : Nat) : Int) - 1 = (k : Int) := by omega
    rw [ek] at hl
    refine lv_iload hc.1 hc.2.1 dL_say_6 (lv_at hl 0 rfl) ?_
    refine lv_if_lt hc.1 hc.2.1 dL_say_8 (tgt := 34) (by decide) (fun q => ?_) (fun _ => ?_)
    · have := (ofInt_m1 (k + 1) (by omega)).mp (by rw [ek]; exact q)
      omega
    refine lv_aload_n hc.1 hc.2.1 dL_say_11 rfl (lv_at hl 1 rfl) ?_
    refine lv_aload_n hc.1 hc.2.1 dL_say_12 rfl (lv_at hl 2 rfl) ?_
    refine lv_lload_n hc.1 hc.2.1 dL_say_13 rfl (lv_at hl 3 rfl) ?_
    refine lv_bipush hc.1 hc.2.1 dL_say_14 (v := Int32.ofInt 8) (by decide) ?_
    refine lv_iload hc.1 hc.2.1 dL_say_16 (lv_at hl 0 rfl) ?_
    refine lv_imul hc.1 hc.2.1 dL_say_18 ?_
    refine lv_lshr hc.1 hc.2.1 dL_say_19 rfl ?_
    refine lv_l2i hc.1 hc.2.1 dL_say_20 rfl ?_
    refine lv_sipush hc.1 hc.2.1 dL_say_21 (v := Int32.ofInt 255) (by decide) ?_
    refine lv_iand hc.1 hc.2.1 dL_say_24 ?_
    have en := say_num _ hv k (by show k < n.toNat; omega)
    have en' : ((Int64.ofInt v >>> ((Int32.ofInt 8 * Int32.ofInt (k : Int)).toInt64 &&& 63)).toInt32 &&& Int32.ofInt 255) = Int32.ofInt (v / 256 ^ k % 256) := en
    rw [en']
    have hsa : okS [(3, o), (3, 3), (0, v / 256 ^ k % 256)] := ⟨trivial, trivial, trivial, trivial⟩
    have hr9 := room_ok (mc := 0) (d' := 3) (mL := 4) hc rfl rfl
    have e5 := hc.2.2.2.2.1
    have hE := hc.2.2.2.2.2.1
    have hp' : wL_add G o (v / 256 ^ k % 256) h (sayK G o v k P) := hp
    refine va_callv (va_runS (As := [(3, o), (3, 3), (0, v / 256 ^ k % 256)].map (cv G)) (rest := []) ⟨hc.1, hc.2.1, hc.2.2.1, hc.2.2.2.1, e5⟩ (qL_add G l hG o _ h _ hO hp') (va_cwS 3 e5 (mo_L_add.ws ml_L_14) rfl rfl rfl ⟨mo_L_add.2.2.2.1.1, mo_L_add.2.2.2.1.2, mo_L_add.2.2.2.2⟩ hr9) ⟨ePc_blind G _ h, ePc_of hsa hP hS hE⟩ rfl rfl hl.1 (by
      rw [List.map_cons, List.map_cons, ha1, ha2]
      rfl) (lv_room (by decide)) dL_say_25 ⟨Nat.zero_le _, Nat.zero_le _⟩) hS (fun _ _ q => q) (fun _ q => q) (fun u t H1 L1 ht hvm hw hB hz hk1 hS1 => ?_)
    have hB1 : va_P G.2.1 vwCl (mkW G u) t.heap := hB
    rw [ht] at hB1
    refine lv_iinc hc.1 hc.2.1 dL_say_28 hl (k := 0) rfl (v := Int32.ofInt ((k : Int) - 1)) (by rw [← Int32.ofInt_add]; rfl) (by decide) rfl (fun ls' hl' => ?_)
    refine lv_goto hc.1 hc.2.1 (tgt := 6) dL_say_31 (by decide) ?_
    exact ih u H1 L1 ls' hl' hB1 hS1 (by omega) hw
theorem qL_say (G : GG) (l : Launch) (hG : LG G) (o v n : Int) (h : HP) (P : HP → Prop) (hO : OB G o) (hw : wL_say G o v n h P) : CnV l G yL_say cL_say 6 4 [(3, o), (3, 3), (2, v), (0, n)] h P := by
  refine Met.ofW (cc := cL_say) (maxL := 6) (ret := none) (by decide) rfl ?_
  intro p e s m args below meth c s₁ B hml hv
  have hts := atoms_spec (ws := Cond.code yL_say cL_say 6 none :: tblG) B.pre
  have hc : VC G p (rmD 4 0) s m args meth c RL cL_say 6 4 := ⟨B.exec, B.bytes, hml, findClass_of_methodNamed B.named, fun w hw => hts w (List.mem_cons_of_mem _ hw), hv.2.2.2, B.notSynchronized, Nat.le_refl _, Nat.le_refl _⟩
  have hr : meth.sig.returnType = none := B.returns
  obtain ⟨rfl, hs, hP, hE⟩ := hv
  have n6 := say_le _ hw.1
  have n6' : 1 ≤ n ∧ n ≤ 6 := n6
  have ha1 := hO.atv
  have ha2 := cv_x hG.e3
  have hvs : [(3, o), (3, 3), (2, v), (0, n)].map (cv G) = [.ref (gob G o).1, .ref (G.2.2.1 (300 + (3 : Int).toNat)), .long (Int64.ofInt v), .int (Int32.ofInt n)] := by
    rw [List.map_cons, List.map_cons, ha1, ha2]
    rfl
  rw [lg_entry_eq]
  rw [hvs] at hc ⊢
  have hl := lv_entry [Value.ref (gob G o).1, .ref (G.2.2.1 (300 + (3 : Int).toNat)), .long (Int64.ofInt v), .int (Int32.ofInt n)] (n := 6) (Nat.le_of_ble_eq_true rfl)
  generalize (lg_sl [Value.ref (gob G o).1, .ref (G.2.2.1 (300 + (3 : Int).toNat)), .long (Int64.ofInt v), .int (Int32.ofInt n)] ++ List.replicate (6 - (lg_sl [Value.ref (gob G o).1, .ref (G.2.2.1 (300 + (3 : Int).toNat)), .long (Int64.ofInt v), .int (Int32.ofInt n)]).length) Slot.unset).toArray = ls at hl ⊢
  have hl : lv_has ls 6 [(0, .ref (gob G o).1), (1, .ref (G.2.2.1 (300 + (3 : Int).toNat))), (2, .long (Int64.ofInt v)), (4, .int (Int32.ofInt n))] := hl
  refine lv_iload hc.1 hc.2.1 dL_say_0 (lv_at hl 3 rfl) ?_
  refine lv_iconst hc.1 hc.2.1 dL_say_2 rfl ?_
  refine lv_isub hc.1 hc.2.1 dL_say_3 ?_
  rw [← Int32.ofInt_sub]
  refine lv_istore hc.1 hc.2.1 dL_say_4 hl (by decide) rfl (fun ls' hl' => ?_)
  exact say_loop hc hr hG hO hw.1 ha1 ha2 n.toNat h s.heap [] ls' (by rw [show ((n.toNat : Nat) : Int) = n by omega]; exact hl') hP va_S.rf (by omega) hw.2
