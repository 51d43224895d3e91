/-! throws and what they need; calls that may throw -/
theorem xN_in : ∀ w ∈ (vx_at0 RX11 194 "java/util/NoSuchElementException" ["java/lang/RuntimeException", "java/lang/Exception"]).filter goodWord, w ∈ tblG := by decide +kernel
theorem xI_in : ∀ w ∈ (vx_at0 RX11 131 "java/lang/IllegalArgumentException" ["java/lang/RuntimeException", "java/lang/Exception"]).filter goodWord, w ∈ tblG := by decide +kernel
theorem xN_bad : ∀ w ∈ (vx_at0 RX11 194 "java/util/NoSuchElementException" ["java/lang/RuntimeException", "java/lang/Exception"]).filter (fun w => !goodWord w), w ∈ [Cond.castable "java/util/NoSuchElementException" "java/util/NoSuchElementException", .declares (Bundle.init0 "java/lang/Throwable"), .declares (Bundle.init0 "java/lang/RuntimeException"), .declares (Bundle.init0 "java/lang/Exception")] := by decide +kernel
theorem xI_bad : ∀ w ∈ (vx_at0 RX11 131 "java/lang/IllegalArgumentException" ["java/lang/RuntimeException", "java/lang/Exception"]).filter (fun w => !goodWord w), w ∈ [Cond.castable "java/lang/IllegalArgumentException" "java/lang/IllegalArgumentException", .declares (Bundle.init0 "java/lang/Throwable"), .declares (Bundle.init0 "java/lang/RuntimeException"), .declares (Bundle.init0 "java/lang/Exception")] := by decide +kernel
theorem xN_ot : ∀ w ∈ Cond.classLink RX11 192 "java/util/NoSuchElementException" :: Cond.initialized "java/util/NoSuchElementException" :: vx_at0 RX11 194 "java/util/NoSuchElementException" ["java/lang/RuntimeException", "java/lang/Exception"], vx_ot w = true := by decide +kernel
theorem xI_ot : ∀ w ∈ Cond.classLink RX11 129 "java/lang/IllegalArgumentException" :: Cond.initialized "java/lang/IllegalArgumentException" :: vx_at0 RX11 131 "java/lang/IllegalArgumentException" ["java/lang/RuntimeException", "java/lang/Exception"], vx_ot w = true := by decide +kernel
theorem xN_k : Cond.classLink RX11 192 "java/util/NoSuchElementException" ∈ tblG ∧ Cond.initialized "java/util/NoSuchElementException" ∈ tblG := by decide +kernel
theorem xI_k : Cond.classLink RX11 129 "java/lang/IllegalArgumentException" ∈ tblG ∧ Cond.initialized "java/lang/IllegalArgumentException" ∈ tblG := by decide +kernel
theorem wd_lt {G : GG} {h : HP} {H : Heap} (hP : va_P G.2.1 vwCl (mkW G h) H) {H1 : Heap} (hq : ∀ q : Nat, q < H.size → H1[q]? = H[q]?) : va_P G.2.1 vwCl (mkW G h) H1 :=
  hP.kept (fun _ q hk => hq q.1 (hP _ q hk).lt)
section VThrow
variable {G : GG} {p : Program} {l : Launch} {e : Jvm.Env} {R : Room} {s : State} {m : MethodId} {args : Array Value} {below : List Frame} {meth : Method} {c : Code} {cc : ByteArray} {nL d pc : Nat} {lo st : List TV} {h : HP} {n mc : Nat} {Qc : Array Value → State → Outcome → State → Prop} {X : Nat → HP → Prop}
theorem V.throwN (hc : VC G p R s m args meth c RX11 cc nL d) (hlf : l.stackTraces = false) (hxt : ∀ x ∈ c.exceptionTable.toList, False) (hR : R = rmD d mc) (hd6 : Nat.ble 6 d = true) (hn : Nat.ble (n + 1) mc = true)
    (d0 : decode cc pc = .ok (.new 192, 3)) (d3 : decode cc (pc + 3) = .ok (.dup, 1)) (d4 : decode cc (pc + 4) = .ok (.invokespecial 194, 3)) (d7 : decode cc (pc + 7) = .ok (.athrow, 1)) (hX : X 0 h) :
    V G p l e R s m args below meth c (vx_MQ below Qc (XX G X) args s mc (6 * mc) (va_Aof G)) nL pc lo [] h n := by
  intro ho hs H L ls hL hP hS
  obtain ⟨e1, e2, e3, e4, e5, ⟨f1, f2, f3, f4, f5, f6, f7, f8, f9, g1, g2, g3, g4, g5, g6⟩, e7, e8⟩ := hc
  have h6 := Nat.le_of_ble_eq_true hd6
  have h1 := Nat.le_of_ble_eq_true hn
  subst hR
  refine vx_throw0 (names := ["java/lang/RuntimeException", "java/lang/Exception"]) e1 e2 hlf e4 (by decide +kernel) (by decide +kernel) (e5 _ xN_k.1) (e5 _ xN_k.2)
    (vx_hat (fun w hw => e5 w (xN_in w hw)) xN_bad (vx_c (g1.use rfl) (vx_c (g3.use rfl) (vx_c (g4.use rfl) (vx_c (g5.use rfl) vx_n))))) xN_ot f2 f3 hS (hL.1.trans e3.symm) d0 d3 d4 d7 (fun x hx => (hxt x hx).elim)
    (show 2 + 3 < d by omega) (show 0 + (13 * (2 + 1) + 42) ≤ 40 * d by omega) (show n + 1 ≤ mc by omega) (show 6 * n + 6 ≤ 6 * mc by omega) e7
    (fun t hvm hz hq => ⟨(0, h), hX, ⟨rfl, wd_lt hP hq⟩, ⟨Nat.le_trans hS.1 hz, fun q h1 h2 => by rw [hq q (Nat.lt_of_lt_of_le h1 hS.1)]; exact hS.2.1 q h1 h2⟩⟩) hS.2.2 h1 (by omega)
theorem V.throwI (hc : VC G p R s m args meth c RX11 cc nL d) (hlf : l.stackTraces = false) (hxt : ∀ x ∈ c.exceptionTable.toList, False) (hR : R = rmD d mc) (hd6 : Nat.ble 6 d = true) (hn : Nat.ble (n + 1) mc = true)
    (d0 : decode cc pc = .ok (.new 129, 3)) (d3 : decode cc (pc + 3) = .ok (.dup, 1)) (d4 : decode cc (pc + 4) = .ok (.invokespecial 131, 3)) (d7 : decode cc (pc + 7) = .ok (.athrow, 1)) (hX : X 1 h) :
    V G p l e R s m args below meth c (vx_MQ below Qc (XX G X) args s mc (6 * mc) (va_Aof G)) nL pc lo [] h n := by
  intro ho hs H L ls hL hP hS
  obtain ⟨e1, e2, e3, e4, e5, ⟨f1, f2, f3, f4, f5, f6, f7, f8, f9, g1, g2, g3, g4, g5, g6⟩, e7, e8⟩ := hc
  have h6 := Nat.le_of_ble_eq_true hd6
  have h1 := Nat.le_of_ble_eq_true hn
  subst hR
  refine vx_throw0 (names := ["java/lang/RuntimeException", "java/lang/Exception"]) e1 e2 hlf e4 (by decide +kernel) (by decide +kernel) (e5 _ xI_k.1) (e5 _ xI_k.2)
    (vx_hat (fun w hw => e5 w (xI_in w hw)) xI_bad (vx_c (g2.use rfl) (vx_c (g3.use rfl) (vx_c (g4.use rfl) (vx_c (g5.use rfl) vx_n))))) xI_ot f2 f3 hS (hL.1.trans e3.symm) d0 d3 d4 d7 (fun x hx => (hxt x hx).elim)
    (show 2 + 3 < d by omega) (show 0 + (13 * (2 + 1) + 42) ≤ 40 * d by omega) (show n + 1 ≤ mc by omega) (show 6 * n + 6 ≤ 6 * mc by omega) e7
    (fun t hvm hz hq => ⟨(1, h), hX, ⟨rfl, wd_lt hP hq⟩, ⟨Nat.le_trans hS.1 hz, fun q h1 h2 => by rw [hq q (Nat.lt_of_lt_of_le h1 hS.1)]; exact hS.2.1 q h1 h2⟩⟩) hS.2.2 h1 (by omega)
variable {own : String} {y : MethodName} {b : ByteArray} {mL d' mc' np idx k ci : Nat} {i : Int} {ret : Option FieldType} {as st0 : List TV} {P : Int → HP → Prop} {PV : HP → Prop}
/-- a callee that may throw, called where nothing is caught -/
theorem V.callVVx (hc : VC G p R s m args meth c own cc nL d) (hxt : ∀ x ∈ c.exceptionTable.toList, False) (hR : R = rmD d mc) (hM : CxV l G y b mL d' mc' ((k + 10, i) :: as) h PV X) (hmo : MOv y b mL none np) (hl : Cond.methodLink own idx y ∈ tblG) (hcl : vwCl[ci]?.map (fun q => q.1) = some y.cls) (hk : kCls k = ci) (hci : Nat.ble (ci + 1) 90 = true)
    (hst : st0 = as.reverse ++ (k + 10, i) :: st) (hnp : as.length = np) (hdd : Nat.ble (d' + 1) d = true) (hm : Nat.ble mL 21 = true) (hcat : Nat.ble (catS st) 8 = true) (hn : Nat.ble (n + mc') mc = true) (hd : decode cc pc = .ok (.invokevirtual idx, 3))
    (k1 : ∀ (h' : HP), PV h' → V G p l e R s m args below meth c (vx_MQ below Qc (XX G X) args s mc (6 * mc) (va_Aof G)) nL (pc + 3) lo st h' (n + mc')) : V G p l e R s m args below meth c (vx_MQ below Qc (XX G X) args s mc (6 * mc) (va_Aof G)) nL pc lo st0 h n := by
  intro ho hs H L ls hL hP hS
  subst hst
  have hs' := okS_app.mp hs
  have hsa : okS ((k + 10, i) :: as) := ⟨hs'.2.1, okS_rev.mp hs'.1⟩
  have hw := mkW_at G h (k := k) (i := i) hs'.2.1
  rw [cellR_obj hk hci] at hw
  obtain ⟨q, hq⟩ : ∃ q, vwCl[ci]? = some q := by
    cases hz : vwCl[ci]? with
    | none => rw [hz] at hcl; cases hcl
    | some q => exact ⟨q, rfl⟩
  rw [hq] at hcl
  have hq1 : q.1 = y.cls := by simpa using hcl
  have hrc := va_recv hc.2.2.2.2.2.1.1 hP hq hw
  rw [hq1] at hrc
  have hr9 := room_ok (mc := mc') hc hdd hm
  have hle := Nat.le_of_ble_eq_true hn
  have e5 := hc.2.2.2.2.1
  have e7 := hc.2.2.2.2.2.2.1
  have hE := hc.2.2.2.2.2.1
  have hcw := Nat.le_trans (catS_le G st) (Nat.le_of_ble_eq_true hcat)
  subst hR
  refine vx_callv (vx_runV (As := as.map (cv G)) (rest := st.map (cv G)) ⟨hc.1, hc.2.1, hc.2.2.1, hc.2.2.2.1, e5⟩ hM (cwV np e5 (hmo.ws hl) rfl rfl rfl ⟨rfl, hmo.2.2.2.2.1.1, hmo.2.2.2.2.1.2, hmo.2.2.2.2.2⟩ hr9) ⟨ePc_blind G _ h, hrc, ePc_of hsa hP hS hE⟩ rfl (by rw [List.length_map]; exact hnp) hL.1 (by simp [List.map_append, List.map_reverse]; rfl) (lv_room hcw) hd ⟨show n + mc' ≤ mc from hle, show 6 * n + 6 * mc' ≤ 6 * mc by omega⟩) hS (fun _ _ q => q) (fun _ q => q) (fun _ _ q => q) (fun E ce q9 u t H1 L1 ht hvm hp hb hz hk1 hS1 hce hcv hcl9 => ?_) (fun u t H1 L1 ht hvm hw hB hz hk1 hS1 => ?_)
  · obtain ⟨hE1, hB1⟩ := hb
    have hB2 : va_P G.2.1 vwCl (mkW G u.2) t.heap := hB1
    rw [ht] at hB2
    exact vx_out (fun x hx => (hxt x hx).elim) e7 hce hcv hcl9 (fun t2 ht2 hvm2 => ⟨u, hp, ⟨hE1, by show va_P G.2.1 vwCl (mkW G u.2) t2.heap; rw [ht2]; exact hB2⟩, hS1.F ht2⟩) hS1.2.2 hle (by omega)
  · have hB1 : va_P G.2.1 vwCl (mkW G u) t.heap := hB
    rw [ht] at hB1
    have := k1 u hw ho hs'.2.2 H1 L1 ls hL hB1 hS1
    rw [Nat.mul_add] at this
    exact this
theorem V.callSVx (hc : VC G p R s m args meth c own cc nL d) (hxt : ∀ x ∈ c.exceptionTable.toList, False) (hR : R = rmD d mc) (hM : CxV l G y b mL d' mc' as h PV X) (hmo : MOs y b mL none np) (hl : Cond.methodLink own idx y ∈ tblG)
    (hst : st0 = as.reverse ++ st) (hnp : as.length = np) (hdd : Nat.ble (d' + 1) d = true) (hm : Nat.ble mL 21 = true) (hcat : Nat.ble (catS st) 8 = true) (hn : Nat.ble (n + mc') mc = true) (hd : decode cc pc = .ok (.invokestatic idx, 3))
    (k1 : ∀ (h' : HP), PV h' → V G p l e R s m args below meth c (vx_MQ below Qc (XX G X) args s mc (6 * mc) (va_Aof G)) nL (pc + 3) lo st h' (n + mc')) : V G p l e R s m args below meth c (vx_MQ below Qc (XX G X) args s mc (6 * mc) (va_Aof G)) nL pc lo st0 h n := by
  intro ho hs H L ls hL hP hS
  subst hst
  have hs' := okS_app.mp hs
  have hsa : okS as := okS_rev.mp hs'.1
  have hr9 := room_ok (mc := mc') hc hdd hm
  have hle := Nat.le_of_ble_eq_true hn
  have e5 := hc.2.2.2.2.1
  have e7 := hc.2.2.2.2.2.2.1
  have hE := hc.2.2.2.2.2.1
  have hcw := Nat.le_trans (catS_le G st) (Nat.le_of_ble_eq_true hcat)
  subst hR
  refine vx_callv (vx_runS (As := as.map (cv G)) (rest := st.map (cv G)) ⟨hc.1, hc.2.1, hc.2.2.1, hc.2.2.2.1, e5⟩ hM (va_cwS np e5 (hmo.ws hl) rfl rfl rfl ⟨hmo.2.2.2.1.1, hmo.2.2.2.1.2, hmo.2.2.2.2⟩ hr9) ⟨ePc_blind G _ h, ePc_of hsa hP hS hE⟩ rfl (by rw [List.length_map]; exact hnp) hL.1 (by simp [List.map_append, List.map_reverse]) (lv_room hcw) hd ⟨show n + mc' ≤ mc from hle, show 6 * n + 6 * mc' ≤ 6 * mc by omega⟩) hS (fun _ _ q => q) (fun _ q => q) (fun _ _ q => q) (fun E ce q9 u t H1 L1 ht hvm hp hb hz hk1 hS1 hce hcv hcl9 => ?_) (fun u t H1 L1 ht hvm hw hB hz hk1 hS1 => ?_)
  · obtain ⟨hE1, hB1⟩ := hb
    have hB2 : va_P G.2.1 vwCl (mkW G u.2) t.heap := hB1
    rw [ht] at hB2
    exact vx_out (fun x hx => (hxt x hx).elim) e7 hce hcv hcl9 (fun t2 ht2 hvm2 => ⟨u, hp, ⟨hE1, by show va_P G.2.1 vwCl (mkW G u.2) t2.heap; rw [ht2]; exact hB2⟩, hS1.F ht2⟩) hS1.2.2 hle (by omega)
  · have hB1 : va_P G.2.1 vwCl (mkW G u) t.heap := hB
    rw [ht] at hB1
    have := k1 u hw ho hs'.2 H1 L1 ls hL hB1 hS1
    rw [Nat.mul_add] at this
    exact this
end VThrow
