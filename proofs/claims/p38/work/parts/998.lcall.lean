/-! calls that answer a row; an object, made -/
def ePm (G : GG) (as : List TV) (h : HP) : Array Value → State → Prop := fun a U => ePc G as h a U ∧ MC G U
def QR (G : GG) (P : GG → HP → Int → Prop) : Array Value → State → Outcome → State → Prop := va_Qr (fun u : GG × (HP × Int) => P u.1 u.2.1 u.2.2 ∧ EG G u.1 ∧ SG u.1) (fun u a t => cv u.1 (3, u.2.2) = .ref a ∧ va_P u.1.2.1 vwCl (mkW u.1 u.2.1) t.heap) (va_Aof G)
def CnR (l : Launch) (G : GG) (y : MethodName) (b : ByteArray) (mL : Nat) (rt : FieldType) (d mc : Nat) (as : List TV) (h : HP) (P : GG → HP → Int → Prop) : Prop :=
  Met l y (Cond.code y b mL (some rt) :: tblG) (rmD d mc) (ePm G as h) (QR G P) mc (6 * mc) (va_Aof G)
theorem ePm_blind (G : GG) (as : List TV) (h : HP) : FrameBlind (ePm G as h) := by
  intro a U g mk ⟨h1, h2⟩
  exact ⟨ePc_blind G as h a U g mk h1, h2⟩
theorem EG.A {G G' : GG} (x : EG G G') : va_Aof G' = va_Aof G := by
  unfold va_Aof
  rw [x.1, x.2.2.2.2.1]
section CAL
variable {G : GG} {p : Program} {l : Launch} {e : Jvm.Env} {R : Room} {s : State} {m : MethodId} {args : Array Value} {below : List Frame} {meth : Method} {c : Code} {Q : State → Prop} {own : String} {cc : ByteArray} {nL d pc : Nat} {lo st : List TV} {h : HP} {n : Nat}
theorem V.aret {G' : GG} {x : Int} {t : FieldType} {P : GG → HP → Int → Prop} (hc : VC G' p R s m args meth c own cc nL d) (eg : EG G G') (sg : SG G') (hr : meth.sig.returnType = some (.array t)) (hx : ∃ a, cv G' (3, x) = .ref a) (hd : decode cc pc = .ok (.areturn, 1)) (hp : P G' h x) : V G' p l e R s m args below meth c (MQ below (QR G P) args s n (6 * n) (va_Aof G)) nL pc lo [(3, x)] h n := by
  intro ho hs H L ls hL hP hS
  have hlocks := hc.2.2.2.2.2.2.1
  obtain ⟨a, ha⟩ := hx
  rw [eg.A] at hS
  rw [List.map_cons, List.map_nil, ha]
  exact W.aret hc.1 hc.2.1 hr (Or.inr ⟨t, rfl⟩) (Or.inr ⟨a, rfl⟩) (fun t ht hW => ⟨⟨(G', (h, x)), a, rfl, ⟨hp, eg, sg⟩, ha, by rw [ht]; exact hP⟩, hS.F ht⟩) hS.2.2 hd hlocks
theorem CnR.of {y : MethodName} {b : ByteArray} {mL mc : Nat} {rt : FieldType} {as lo : List TV} {P : GG → HP → Int → Prop} (hy : plainName y.cls = true) (htag : tagS as = true) (hlen : Nat.ble as.length mL = true) (hlo : as ++ List.replicate (mL - as.length) (1, 0) = lo)
    (body : ∀ (p : Program) (e : Jvm.Env) (s : State) (m : MethodId) (args : Array Value) (below : List Frame) (meth : Method) (c : Code), VC G p (rmD d mc) s m args meth c y.cls b mL d → meth.sig.returnType = some rt → MC G s → V G p l e (rmD d mc) s m args below meth c (MQ below (QR G P) args s mc (6 * mc) (va_Aof G)) mL 0 lo [] h 0) : CnR l G y b mL rt d mc as h P := by
  refine Met.ofW (cc := b) (maxL := mL) (ret := some rt) hy rfl ?_
  intro p e s m args below meth c s₁ B hml hv
  have hts := atoms_spec (ws := Cond.code y b mL (some rt) :: tblG) B.pre
  exact V.entry hv.1 htag hlen hlo (body p e s m args below meth c ⟨B.exec, B.bytes, hml, findClass_of_methodNamed B.named, fun w hw => hts w (List.mem_cons_of_mem _ hw), hv.1.2.2.2, B.notSynchronized, Nat.le_refl _, Nat.le_refl _⟩ B.returns hv.2)
theorem V.callR {y : MethodName} {b : ByteArray} {mL d' mc np idx : Nat} {rt : FieldType} {as st0 : List TV} {P : GG → HP → Int → Prop} (hc : VC G p R s m args meth c own cc nL d) (hm : MC G s) (hM : CnR l G y b mL rt d' mc as h P) (hmo : MOs y b mL (some rt) np) (hl : Cond.methodLink own idx y ∈ tblG)
    (hst : st0 = as.reverse ++ st) (hlo : LiveS G lo) (hls : LiveS G st) (hnp : as.length = np) (hdd : Nat.ble (d' + 1) d = true) (hml : Nat.ble mL 21 = true) (hcat : Nat.ble (catS st) 8 = true) (hn : n + mc ≤ R.cells ∧ 6 * n + 6 * mc ≤ R.slots) (hd : decode cc pc = .ok (.invokestatic idx, 3))
    (k1 : ∀ (G' : GG) (h' : HP) (x : Int), P G' h' x → EG G G' → SG G' → VC G' p R s m args meth c own cc nL d → (∃ a, cv G' (3, x) = .ref a) → V G' p l e R s m args below meth c Q nL (pc + 3) lo ((3, x) :: st) h' (n + mc)) : V G p l e R s m args below meth c Q nL pc lo st0 h n := by
  intro ho hs H L ls hL hP hS
  subst hst
  have hs' := okS_app.mp hs
  have hsa : okS as := okS_rev.mp hs'.1
  have hr9 := room_ok hc hdd hml mc
  have e5 := hc.2.2.2.2.1
  have hE := hc.2.2.2.2.2.1
  have hcw := Nat.le_trans (catS_le G st) (Nat.le_of_ble_eq_true hcat)
  have hpre : ∀ U : State, U.heap = H → s.WarmedH U.vm → ePm G as h (as.map (cv G)).toArray U := fun U hU hW => ⟨ePc_of hsa hP hS hE U hU hW, hm.moved hW.alike⟩
  refine va_callr (va_runS (As := as.map (cv G)) (rest := st.map (cv G)) ⟨hc.1, hc.2.1, hc.2.2.1, hc.2.2.2.1, e5⟩ hM (va_cwS np e5 (hmo.ws hl) rfl rfl rfl ⟨hmo.2.2.2.1.1, hmo.2.2.2.1.2, hmo.2.2.2.2⟩ hr9) ⟨ePm_blind G _ h, hpre⟩ rfl (by rw [List.length_map]; exact hnp) hL.1 (by simp [List.map_append, List.map_reverse]) (lv_room hcw) hd ⟨hn.1, hn.2⟩) hS (fun _ _ q => q) (fun _ q => q) (fun u ra t H1 L1 ht hvm hw hB hz hk1 hS1 => ?_)
  obtain ⟨hp1, eg, sg⟩ := hw
  obtain ⟨hr1, hB1⟩ := hB
  rw [ht] at hB1
  have hc' := eg.vc hc sg.D
  refine W.widen (k := n + mc) (n := 6 * (n + mc)) (Nat.le_refl _) (by omega) ?_
  have k2 := k1 u.1 u.2.1 u.2.2 hp1 eg sg hc' ⟨ra, hr1⟩ ho ⟨trivial, hs'.2⟩ H1 L1 ls (eg.lr ho hlo hL) hB1 (by rw [eg.A]; exact hS1)
  rw [List.map_cons, hr1, eg.map hs'.2 hls] at k2
  exact k2
end CAL
theorem df_X11 : ∀ j, j < 21 → defaultValue (tyX11 j) = (match kRt 11 j with | none => Value.int 0 | some _ => Value.null) := by
  intro j hj
  exact match j, hj with
  | 0, _ => rfl
  | 1, _ => rfl
  | 2, _ => rfl
  | 3, _ => rfl
  | 4, _ => rfl
  | 5, _ => rfl
  | 6, _ => rfl
  | 7, _ => rfl
  | 8, _ => rfl
  | 9, _ => rfl
  | 10, _ => rfl
  | 11, _ => rfl
  | 12, _ => rfl
  | 13, _ => rfl
  | 14, _ => rfl
  | 15, _ => rfl
  | 16, _ => rfl
  | 17, _ => rfl
  | 18, _ => rfl
  | 19, _ => rfl
  | 20, _ => rfl
  | k + 21, hj => absurd hj (by omega)
theorem nb_X11 : Cond.initialized RX11 ∈ tblG := tin 28 (by decide +kernel) (by decide)
theorem mi_X11_init : MOi yX11_init cX11_init 1 0 := ⟨tin 55 (by decide +kernel) (by decide), nb_X11, tin 56 (by decide +kernel) (by decide), by decide +kernel, by decide +kernel, rfl⟩
theorem cb_L_9 : Cond.classLink RL 9 RX11 ∈ tblG := tin 52 (by decide +kernel) (by decide)
theorem mb_L_92 : Cond.methodLink RL 92 yX11_init ∈ tblG := tin 54 (by decide +kernel) (by decide)
def hp0 : HP := fun _ _ _ => 0
def hpF : HP := (up (up (up (hist (up (hist (up (up hp0 11 0 2 (-1)) 6 10 5 (-1)) 20 40) 6 11 5 (-1)) 60 40) 6 12 5 (-1)) 3 0 2 (-1)) 4 0 5 (-1))
section OBJ
variable {p : Program} {l : Launch} {e : Jvm.Env} {R : Room} {s : State} {m : MethodId} {args : Array Value} {below : List Frame} {meth : Method} {c : Code} {Q : State → Prop}
theorem W.newO {Gc : GG} {cc : ByteArray} {nL pc n n2 : Nat} {H : Heap} {L : List Loc} {ls : Array Slot} {rest : List Value} {A0 : Nat → Prop} (e1 : p.tables.exec = Jvm.exec) (e2 : c.code = cc) (e3 : c.maxLocals = nL) (e4 : s.vm.findClass RL = some m.cls) (e5 : ∀ w ∈ tblG, w.before args s = true) (hK : va_K Gc.2.1 vwCl (tysOf Gc) s) (hx : NX s) (hfl : Gc.2.2.1 399 = 1) (hz : Gc.1 = H.size)
    (hEc : ∀ (U : State) (H1 : Heap), s.WarmedH U.vm → H.size ≤ H1.size → (∀ a, a < H.size → H1[a]? = H[a]?) → Env Gc U H1) (hA : ∀ q, H.size ≤ q → A0 q) (hS : va_S A0 s.heap H L) (hls : ls.size = nL) (hcw : ((Value.ref H.size :: rest).map fun v => v.category).sum ≤ 8)
    (hn : n + 1635 ≤ R.cells ∧ n2 + 245238 ≤ R.slots) (hr9 : (rmB 4 1634 245217).frames + 1 ≤ R.frames ∧ 8 + (1 + 11) + (rmB 4 1634 245217).locals ≤ R.locals) (hd1 : decode cc pc = .ok (.new 9, 3)) (hd2 : decode cc (pc + 3) = .ok (.dup, 1)) (hd3 : decode cc (pc + 4) = .ok (.invokespecial 92, 3))
    (kk : ∀ (H1 : Heap) (L1 : List Loc), va_P Gc.2.1 vwCl (mkO Gc hpF) H1 → (∀ a, a < H.size → H1[a]? = H[a]?) → H.size ≤ H1.size → va_S A0 s.heap H1 L1 → W p l e R s m args below meth c H1 L1 (n + 1635) (n2 + 245238) Q (F0 m (pc + 7) ls (.ref H.size :: rest))) : W p l e R s m args below meth c H L n n2 Q (F0 m pc ls rest) := by
  have hKn := hK.1 11 _ rfl
  refine W.newcK e1 e2 e4 (e5 _ cb_L_9) (e5 _ ib_X11) (e5 _ nb_X11) rfl hd1 (by omega) (by show n2 + 21 ≤ R.slots; omega) hKn.2.1 rfl (fun H1 kC hkC a1 z1 o1 => ?_)
  have hob : va_at Gc.2.1 vwCl (H.size, .inr (11, (List.range 21).map (fun j => match kRt 11 j with | none => Value.int 0 | some _ => Value.null))) H1 := by
    refine ⟨_, rfl, (u_born tyX11 e5 inG_X11 hKn hkC a1 tyX11_ok).to (fun j hj => ?_)⟩
    rw [df_X11 j hj]
    unfold vp_V
    rw [List.getD_eq_getElem?_getD, List.getElem?_map, List.getElem?_range hj]
    rfl
  have hS1 : va_S A0 s.heap H1 L := ⟨Nat.le_trans hS.1 (by omega), fun q h1 h2 => (o1 q (Nat.lt_of_lt_of_le h1 hS.1)).trans (hS.2.1 q h1 h2), hS.2.2⟩
  have k0 : kAt 11 0 = 0 := by decide +kernel
  have hcat : cat 0 11 0 := ⟨by decide, by decide⟩
  have hP1 : va_P Gc.2.1 vwCl (mkB Gc (1, (oset (fun _ => oT) 0 (fun _ => false), hp0))) H1 := by
    intro i q hq
    have hi : i < 1 := by
      rcases Nat.lt_or_ge i 1 with v | v
      · exact v
      · rw [List.getElem?_eq_none (by rw [mkB_len]; exact v)] at hq; cases hq
    have ei : i = 0 := by omega
    subst ei
    rw [mkB_at hcat (by show 0 < 1; omega)] at hq
    cases hq
    have ec : cellO Gc (oset (fun _ => oT) 0 (fun _ => false) 0) 11 0 (hp0 11 0) = .inr (11, (List.range 21).map (fun j => match kRt 11 j with | none => Value.int 0 | some _ => Value.null)) := by
      rw [cellO_obj (ci := 11) rfl rfl]
      congr 2
    show va_at Gc.2.1 vwCl (Gc.1 + 0, cellO Gc (oset (fun _ => oT) 0 (fun _ => false) 0) 11 0 (hp0 11 0)) H1
    rw [ec, hz, Nat.add_zero]
    exact hob
  have hw1 : WZ (1, (oset (fun _ => oT) 0 (fun _ => false), hp0)) := by
    refine ⟨fun k i _ _ j => rfl, fun a ha => ?_⟩
    have ha' : 1 ≤ a := ha
    show oset (fun _ => oT) 0 (fun _ => false) a = oT
    unfold oset
    rw [if_neg (by omega)]
  have ea : cv Gc (21, 0) = .ref H.size := by
    show Value.ref (Gc.1 + kAt 11 0) = _
    rw [k0, hz, Nat.add_zero]
  refine lv_dup e1 e2 hd2 rfl ?_
  have hpre : ∀ U : State, U.heap = H1 → s.WarmedH U.vm → eBc Gc [(21, 0)] (1, (oset (fun _ => oT) 0 (fun _ => false), hp0)) [Value.ref H.size].toArray U := by
    intro U hU hW
    refine ⟨by rw [List.map_cons, List.map_nil, ea], ⟨by show kOk 11 0 = true; decide +kernel, trivial⟩, by rw [hU]; exact hP1, by rw [hU, hz]; exact z1, hw1, hx.warm hW, ?_⟩
    rw [hU]
    exact hEc U H1 hW (by omega) o1
  refine va_callv (va_runI (b := H.size) (As := []) (rest := .ref H.size :: rest) ⟨e1, e2, e3, e4, e5⟩ (cbX11 l Gc (fun _ => oT) hp0 (fun _ => rfl) hfl) (cwI 0 e5 mi_X11_init.ws rfl rfl rfl (e5 _ mi_X11_init.2.1) (e5 _ mb_L_92) (e5 _ mi_X11_init.1) mi_X11_init.2.2.2.2.2 ⟨mi_X11_init.2.2.2.1.1, mi_X11_init.2.2.2.1.2, mi_X11_init.2.2.2.2.1⟩ hr9) ⟨eBc_blind Gc _ _, hpre⟩ rfl rfl hls rfl (lv_room hcw) hd3 ⟨by omega, by omega⟩) hS1 (fun q _ z => hA q (by have : Gc.1 ≤ q := z.1; omega)) (fun q z => hA q (by have : Gc.1 ≤ q := z.1; omega)) (fun u t H2 L2 ht hvm hu hB hz2 hk2 hS2 => ?_)
  obtain ⟨hB1, hB2⟩ := hB
  subst hu
  rw [ht] at hB1
  have ho : ∀ a, oset (fun _ => oT) 0 oT a = oT := fun a => by unfold oset; split <;> rfl
  have hB3 : va_P Gc.2.1 vwCl (mkO Gc hpF) H2 := by
    rw [← mkB_full (G := Gc) (h := hpF) ho]
    exact hB1
  refine W.widen (k := n + 1635) (n := n2 + 245238) (by omega) (by omega) ?_
  refine kk H2 L2 hB3 (fun a ha => ?_) (by omega) hS2
  rw [hk2 a (by omega) (fun z => by have : Gc.1 ≤ a := z.1; omega)]
  exact o1 a ha
end OBJ
