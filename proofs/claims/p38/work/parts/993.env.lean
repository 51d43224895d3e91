/-! what holds at the law's entry -/
def NWl : List Cond := flatC (Cond.and given_1 narrow_1)
def tmS (i : Nat) : Term := match i with
  | 0 => .string "BentShares$Reader" 113
  | 1 => .string "BentShares$Reader" 115
  | 2 => .string "BentShares$Reader" 117
  | 3 => .string "BentShares$Reader" 103
  | 4 => .string "BentShares$Reader" 109
  | 5 => .string "BentShares$Reader" 111
  | 6 => .string "BentShares$Teller" 30
  | 7 => .string "BentShares$Teller" 57
  | 8 => .string "BentShares$Teller" 42
  | 9 => .string "BentShares$Teller" 44
  | _ => .string "BentShares$Teller" 46
def ixEx : List Nat := [37, 49, 62, 11, 20, 29, 91, 162, 105, 123, 142]
def ixCo : List Nat := [38, 50, 63, 12, 21, 30, 92, 163, 106, 124, 143]
def ixAr : List Nat := [39, 51, 64, 13, 22, 31, 93, 164, 107, 125, 144]
def ixLn : List Nat := [40, 52, 65, 14, 23, 32, 94, 165, 108, 126, 145]
def ixEl : List (List Nat) := [[41, 42, 43, 44, 45], [53, 54, 55, 56, 57], [66, 67, 68, 69, 70], [15, 16, 17, 18, 19], [24, 25, 26, 27], [33, 34], [95, 96, 97], [166], [109, 110, 111, 112, 113, 114], [127, 128, 129, 130, 131, 132], [146, 147, 148, 149, 150, 151]]
def ixNe : List (List Nat) := [[0, 61, 74, 46, 47, 48, 101, 170, 118, 136, 155], [61, 0, 75, 58, 59, 60, 102, 171, 119, 137, 156], [74, 75, 0, 71, 72, 73, 103, 172, 120, 138, 157], [46, 58, 71, 0, 28, 35, 98, 167, 115, 133, 152], [47, 59, 72, 28, 0, 36, 99, 168, 116, 134, 153], [48, 60, 73, 35, 36, 0, 100, 169, 117, 135, 154], [101, 102, 103, 98, 99, 100, 0, 174, 122, 140, 159], [170, 171, 172, 167, 168, 169, 174, 0, 175, 176, 177], [118, 119, 120, 115, 116, 117, 122, 175, 0, 141, 160], [136, 137, 138, 133, 134, 135, 140, 176, 141, 0, 161], [155, 156, 157, 152, 153, 154, 159, 177, 160, 161, 0]]
set_option maxRecDepth 100000 in
theorem nw_ex : ∀ i ∈ List.range 11, NWl[ixEx.getD i 0]? = some (Cond.exactly (tmS i) "java/lang/String") := by decide +kernel
set_option maxRecDepth 100000 in
theorem nw_co : ∀ i ∈ List.range 11, NWl[ixCo.getD i 0]? = some (Cond.eq (.field (tmS i) "java/lang/String" "coder" "B") (.int 0)) := by decide +kernel
set_option maxRecDepth 100000 in
theorem nw_ar : ∀ i ∈ List.range 11, NWl[ixAr.getD i 0]? = some (Cond.arrayOf (.field (tmS i) "java/lang/String" "value" "[B") .byte) := by decide +kernel
set_option maxRecDepth 100000 in
theorem nw_ln : ∀ i ∈ List.range 11, NWl[ixLn.getD i 0]? = some (Cond.eq (.length (.field (tmS i) "java/lang/String" "value" "[B")) (.int (Int32.ofNat (strLen.getD i 0)))) := by decide +kernel
set_option maxRecDepth 100000 in
theorem nw_el : ∀ i ∈ List.range 11, ∀ j ∈ List.range (strLen.getD i 0), NWl[(ixEl.getD i []).getD j 0]? = some (Cond.eq (.elem (.field (tmS i) "java/lang/String" "value" "[B") (.int (Int32.ofNat j))) (.int ((strByt.getD i []).getD j 0))) := by decide +kernel
set_option maxRecDepth 100000 in
theorem nw_ne : ∀ i ∈ List.range 11, ∀ j ∈ List.range 11, i ≠ j → NWl[(ixNe.getD i []).getD j 0]? = some (Cond.not (Cond.eq (tmS i) (tmS j))) ∨ NWl[(ixNe.getD i []).getD j 0]? = some (Cond.not (Cond.eq (tmS j) (tmS i))) := by decide +kernel
theorem strLen_lt : ∀ i ∈ List.range 11, strLen.getD i 0 < 2 ^ 31 := by decide +kernel
theorem nw_sof {s : State} {b : Nat} (hn : ∀ w ∈ NWl, w.before #[Value.ref b] s = true) : ∃ adK adV : Nat → Nat, vk_S strN strLen strByt adK adV (fun q => s.heap.size ≤ q) s s.heap ∧ ∀ i : Nat, i < 11 → (tmS i).eval #[Value.ref b] s none [] s = some (.ref (adK i)) := by
  refine vk_Sof (tm := tmS) (fun i hi => strLen_lt i (List.mem_range.mpr hi)) (fun i hi => hn _ (List.mem_of_getElem? (nw_ex i (List.mem_range.mpr hi)))) (fun i hi => hn _ (List.mem_of_getElem? (nw_co i (List.mem_range.mpr hi)))) (fun i hi => hn _ (List.mem_of_getElem? (nw_ar i (List.mem_range.mpr hi)))) (fun i hi => hn _ (List.mem_of_getElem? (nw_ln i (List.mem_range.mpr hi)))) (fun i hi j hj => hn _ (List.mem_of_getElem? (nw_el i (List.mem_range.mpr hi) j (List.mem_range.mpr hj)))) (fun i j hi hj hij => ?_) (fun a ha => by show ¬ s.heap.size ≤ a; omega)
  rcases nw_ne i (List.mem_range.mpr hi) j (List.mem_range.mpr hj) hij with q | q
  · exact Or.inl (hn _ (List.mem_of_getElem? q))
  · exact Or.inr (hn _ (List.mem_of_getElem? q))
def idsOf (cs : List Nat) (z b L f g : Nat) (adK adV : Nat → Nat) (n : Nat) : Nat := if n < 7 then cs.getD n 0 else if n = 10 then b else if n = 11 then L else if n = 12 then f else if n = 13 then g else if n < 20 then 0 else if n < 40 then adK (n - 20) else if n < 60 then adV (n - 40) else if n = 301 then z else if n = 399 ∨ n = 401 then 1 else 0
theorem idsOf_K {cs : List Nat} {z b L f g : Nat} {adK adV : Nat → Nat} {i : Nat} (hi : i < 11) : idsOf cs z b L f g adK adV (20 + i) = adK i := by
  unfold idsOf
  rw [if_neg (by omega), if_neg (by omega), if_neg (by omega), if_neg (by omega), if_neg (by omega), if_neg (by omega), if_pos (by omega), show 20 + i - 20 = i by omega]
theorem idsOf_V {cs : List Nat} {z b L f g : Nat} {adK adV : Nat → Nat} {i : Nat} (hi : i < 11) : idsOf cs z b L f g adK adV (40 + i) = adV i := by
  unfold idsOf
  rw [if_neg (by omega), if_neg (by omega), if_neg (by omega), if_neg (by omega), if_neg (by omega), if_neg (by omega), if_neg (by omega), if_pos (by omega), show 40 + i - 40 = i by omega]
theorem idsOf_hi {cs : List Nat} {z b L f g : Nat} {adK adV : Nat → Nat} {n : Nat} (hn : 402 ≤ n) : idsOf cs z b L f g adK adV n = 0 := by
  unfold idsOf
  rw [if_neg (by omega), if_neg (by omega), if_neg (by omega), if_neg (by omega), if_neg (by omega), if_neg (by omega), if_neg (by omega), if_neg (by omega), if_neg (by omega), if_neg (by omega)]
/-- no second object yet, and none of the law's arrays -/
def cls2 (G : GG) : Prop := ∀ n : Nat, 402 ≤ n → G.2.2.1 n = 0
theorem cls2.mk {G : GG} (hc : cls2 G) (h : HP) : mkW G h = mkO G h := by
  have e1 : qL G h = [] := by unfold qL; rw [hc 402 (by decide)]; rfl
  have e2 : idsL G = [] := by
    apply List.eq_nil_iff_forall_not_mem.mpr
    intro x hx
    have := idsL_mem.mp hx
    have z := hc (400 + x) (by omega)
    omega
  unfold mkW arL
  rw [e1, e2]
  show mkO G h ++ ([] ++ []) = _
  rw [List.append_nil, List.append_nil]
theorem cls2.D {G : GG} (hc : cls2 G) (h : HP) : va_D (va_Aof G) (mkW G h) := by
  rw [hc.mk h]
  refine ⟨fun i j p q hp hq e => ?_, fun k q hq => ?_⟩
  · have h1 := mkO_key hp
    have h2 := mkO_key hq
    omega
  · have h1 := mkO_key hq
    show G.1 ≤ q.1 ∧ (G.2.2.1 399 = 1 ∨ q.1 < G.1 + nCell)
    omega
theorem ib_X11 : Cond.instantiable RX11 21 ∈ tblG := tin 53 (by decide +kernel) (by decide)
theorem env_start {s : State} {b L : Nat} {xs : Nat → Int32} (hts : ∀ w ∈ lw_tbl, w.before #[Value.ref b] s = true) (hX : va_X b L xs s s.heap) (hb : b < s.heap.size) (hL : L ≤ 3072) (hp : (Cond.and given_1 narrow_1).before #[Value.ref b] s = true) : ∃ G : GG, G.1 = s.heap.size ∧ G.2.2.1 10 = b ∧ G.2.2.1 11 = L ∧ (G.2.2.1 399 = 1 ∧ G.2.2.1 401 = 1 ∧ G.2.2.1 301 = G.1 ∧ cls2 G) ∧ Env G s s.heap ∧ NX s ∧ (∃ k : Class, s.vm.classes[G.2.2.1 6]? = some k ∧ k.kind = .array (G.2.2.1 5) (.array (.array .int))) ∧ ∃ k : Class, s.vm.classes[G.2.2.1 5]? = some k ∧ k.kind = .array (G.2.2.1 0) (.array .int) := by
  have hn : ∀ w ∈ NWl, w.before #[Value.ref b] s = true := flat_of_before _ hp
  have htg : ∀ w ∈ tblG, w.before #[Value.ref b] s = true := fun w hw => hts w (List.mem_filter.mp hw).1
  obtain ⟨c0, i0, k0⟩ := u_known (C := RX0) (T := TX0) (N := 4) (n := 4) htg inG_X0 (htg _ ib_X0)
  obtain ⟨c1, i1, k1⟩ := u_known (C := RX1) (T := TX1) (N := 7) (n := 7) htg inG_X1 (htg _ ib_X1)
  obtain ⟨c2, i2, k2⟩ := u_known (C := RX2) (T := TX2) (N := 4) (n := 4) htg inG_X2 (htg _ ib_X2)
  obtain ⟨c3, i3, k3⟩ := u_known (C := RX3) (T := TX3) (N := 4) (n := 4) htg inG_X3 (htg _ ib_X3)
  obtain ⟨c4, i4, k4⟩ := u_known (C := RX4) (T := TX4) (N := 8) (n := 8) htg inG_X4 (htg _ ib_X4)
  obtain ⟨c5, i5, k5⟩ := u_known (C := RX5) (T := TX5) (N := 3) (n := 3) htg inG_X5 (htg _ ib_X5)
  obtain ⟨c6, i6, k6⟩ := u_known (C := RX6) (T := TX6) (N := 18) (n := 18) htg inG_X6 (htg _ ib_X6)
  obtain ⟨c7, i7, k7⟩ := u_known (C := RX7) (T := TX7) (N := 4) (n := 4) htg inG_X7 (htg _ ib_X7)
  obtain ⟨c8, i8, k8⟩ := u_known (C := RX8) (T := TX8) (N := 10) (n := 10) htg inG_X8 (htg _ ib_X8)
  obtain ⟨c9, i9, k9⟩ := u_known (C := RX9) (T := TX9) (N := 7) (n := 7) htg inG_X9 (htg _ ib_X9)
  obtain ⟨c10, i10, k10⟩ := u_known (C := RX10) (T := TX10) (N := 2) (n := 2) htg inG_X10 (htg _ ib_X10)
  obtain ⟨c11, i11, k11⟩ := u_known (C := RX11) (T := TX11) (N := 21) (n := 21) htg inG_X11 (htg _ ib_X11)
  obtain ⟨aI, bI, pI, eI1, eI2, eI3⟩ := Cond.arrayClass_spec (args := #[Value.ref b]) (first := s) (o := none) (s := s) (idx := []) (htg _ abI)
  have wL : (Cond.arrayOver (.object RX6)).before #[Value.ref b] s = true := hts _ (List.mem_of_getElem? (i := 263) (by decide +kernel))
  obtain ⟨pL, aL, bL, eL0, -, eL1, eL2, eL3⟩ := Cond.arrayOver_spec (args := #[Value.ref b]) (first := s) (o := none) (s := s) (idx := []) wL
  have w5 : (Cond.arrayOver (.array .int)).before #[Value.ref b] s = true := hts _ (List.mem_of_getElem? (i := 786) (by decide +kernel))
  obtain ⟨p5, a5, b5, e50, -, e51, e52, e53⟩ := arrayOverA_spec (args := #[Value.ref b]) (first := s) (o := none) (s := s) (idx := []) w5
  have w6 : (Cond.arrayOver (.array (.array .int))).before #[Value.ref b] s = true := hts _ (List.mem_of_getElem? (i := 785) (by decide +kernel))
  obtain ⟨p6, a6, b6, e60, -, e61, e62, e63⟩ := arrayOverA_spec (args := #[Value.ref b]) (first := s) (o := none) (s := s) (idx := []) w6
  obtain ⟨adK, adV, hS, hev⟩ := nw_sof hn
  obtain ⟨fv, hf1, hf2⟩ := Cond.isRef_spec (args := #[Value.ref b]) (first := s) (o := none) (s := s) (idx := []) (hn (Cond.isRef (.static "jdk/internal/util/Preconditions" "SIOOBE_FORMATTER" "Ljava/util/function/BiFunction;")) (List.mem_of_getElem? (i := 7) (by decide +kernel)))
  obtain ⟨f, g, rfl⟩ : ∃ f g : Nat, fv = if g = 0 then Value.null else Value.ref f := by
    cases fv with
    | ref f => exact ⟨f, 1, rfl⟩
    | null => exact ⟨0, 0, rfl⟩
    | _ => simp [Value.isRef] at hf2
  let dC : Nat → ClassId := fun n => [c0, c1, c2, c3, c4, c5, c6, c7, c8, c9, c10, c11].getD n 0
  let dI : Nat → Nat → Nat := fun n => [i0, i1, i2, i3, i4, i5, i6, i7, i8, i9, i10, i11].getD n (fun _ => 0)
  let ids : Nat → Nat := idsOf [aI, 0, 0, aL, 0, a5, a6] s.heap.size b L f g adK adV
  have hc2 : cls2 (s.heap.size, ((dC, dI), (ids, xs))) := fun n hn => idsOf_hi hn
  refine ⟨(s.heap.size, ((dC, dI), (ids, xs))), rfl, rfl, rfl, ⟨rfl, rfl, rfl, hc2⟩, ⟨⟨?_, ?_⟩, trivial, trivial, hX, hb, hL, ⟨?_, ?_, ?_⟩, ?_, Nat.le_refl _, hc2.D⟩, ?_, ⟨b6, e61, ?_⟩, b5, e51, ?_⟩
  · intro c q hq
    match c, hq with
    | 0, hq => cases hq; exact k0
    | 1, hq => cases hq; exact k1
    | 2, hq => cases hq; exact k2
    | 3, hq => cases hq; exact k3
    | 4, hq => cases hq; exact k4
    | 5, hq => cases hq; exact k5
    | 6, hq => cases hq; exact k6
    | 7, hq => cases hq; exact k7
    | 8, hq => cases hq; exact k8
    | 9, hq => cases hq; exact k9
    | 10, hq => cases hq; exact k10
    | 11, hq => cases hq; exact k11
    | c + 12, hq => exact absurd hq (by simp)
  · intro k q hq
    match k, hq with
    | 0, hq => cases hq; exact ⟨fun n z => ⟨fun k h => (by cases h), bI, eI2, pI, eI3⟩, eI1⟩
    | 1, hq => cases hq; exact ⟨fun n z => ⟨fun k h => (by cases h), bL, eL1, pL, eL2⟩, bL, pL, eL1, eL2, eL0, eL3⟩
    | 2, hq => cases hq; exact ⟨fun n z => ⟨fun k h => (by cases h), b5, e51, p5, e52⟩, e53⟩
    | 3, hq => cases hq; exact ⟨fun n z => ⟨fun k h => (by cases h), b6, e61, p6, e62⟩, e63⟩
    | k + 4, hq => exact absurd hq (by simp [tysOf])
  · have nA : ∀ q, va_Aof (s.heap.size, ((dC, dI), (ids, xs))) q → s.heap.size ≤ q := fun q hq => hq.1
    refine vk_S.narrow (A := fun q => s.heap.size ≤ q) ⟨fun i hi => ?_, fun i j hi hj e => ?_⟩ nA
    · have hi' : i < 11 := hi
      have := hS.1 i hi
      have j1 : ids (20 + i) = adK i := idsOf_K hi'
      have j2 : ids (40 + i) = adV i := idsOf_V hi'
      show va_O _ (ids (20 + i)) _ _ _ ∧ va_OF _ _ _ _ (ids (20 + i)) _ _ _ ∧ va_OF _ _ _ (.ref (ids (40 + i))) (ids (20 + i)) _ _ _ ∧ va_T _ (ids (40 + i)) _ _ _ _ _
      rw [j1, j2]
      exact this
    · have e' : ids (20 + i) = ids (20 + j) := e
      rw [show ids (20 + i) = adK i from idsOf_K hi, show ids (20 + j) = adK j from idsOf_K hj] at e'
      exact hS.2 i j hi hj e'
  · have hA9 : ∀ a : Nat, a < s.heap.size → ¬ va_Aof (s.heap.size, ((dC, dI), (ids, xs))) a := fun a ha q => by have : s.heap.size ≤ a := q.1; omega
    exact va_Zof (hts _ (List.mem_of_getElem? (i := 872) (by decide +kernel))) (hts _ (List.mem_of_getElem? (i := 45) (by decide +kernel))) (va_eqt (hn _ (List.mem_of_getElem? (i := 6) (by decide +kernel)))) hA9
  · have hv : cv (s.heap.size, ((dC, dI), (ids, xs))) (8, 0) = (if g = 0 then Value.null else Value.ref f) := rfl
    rw [hv]
    have hA9 : ∀ a : Nat, a < s.heap.size → ¬ va_Aof (s.heap.size, ((dC, dI), (ids, xs))) a := fun a ha q => by have : s.heap.size ≤ a := q.1; omega
    exact va_Zof (hts _ (List.mem_of_getElem? (i := 888) (by decide +kernel))) (hts _ (List.mem_of_getElem? (i := 47) (by decide +kernel))) hf1 hA9
  · intro q hq
    unfold ldcT at hq
    simp only [List.mem_cons, List.not_mem_nil, or_false] at hq
    rcases hq with rfl | rfl | rfl | rfl | rfl | rfl | rfl | rfl | rfl | rfl | rfl | rfl
    · exact ⟨_, vk_R.of (tx := "class") (hts _ (List.mem_of_getElem? (i := 858) (by decide +kernel))) (hev 3 (by decide))⟩
    · exact ⟨_, vk_R.of (tx := "flow") (hts _ (List.mem_of_getElem? (i := 911) (by decide +kernel))) (hev 4 (by decide))⟩
    · exact ⟨_, vk_R.of (tx := "in") (hts _ (List.mem_of_getElem? (i := 912) (by decide +kernel))) (hev 5 (by decide))⟩
    · exact ⟨_, vk_R.of (tx := "grant") (hts _ (List.mem_of_getElem? (i := 913) (by decide +kernel))) (hev 0 (by decide))⟩
    · exact ⟨_, vk_R.of (tx := "share") (hts _ (List.mem_of_getElem? (i := 914) (by decide +kernel))) (hev 1 (by decide))⟩
    · exact ⟨_, vk_R.of (tx := "upper") (hts _ (List.mem_of_getElem? (i := 915) (by decide +kernel))) (hev 2 (by decide))⟩
    · exact ⟨_, vk_R.of (tx := "class") (hts _ (List.mem_of_getElem? (i := 996) (by decide +kernel))) (va_eqR (hn _ (List.mem_of_getElem? (i := 85) (by decide +kernel))) (hev 3 (by decide)))⟩
    · exact ⟨_, vk_R.of (tx := " in") (hts _ (List.mem_of_getElem? (i := 1007) (by decide +kernel))) (hev 6 (by decide))⟩
    · exact ⟨_, vk_R.of (tx := " grant") (hts _ (List.mem_of_getElem? (i := 1013) (by decide +kernel))) (hev 8 (by decide))⟩
    · exact ⟨_, vk_R.of (tx := " share") (hts _ (List.mem_of_getElem? (i := 1014) (by decide +kernel))) (hev 9 (by decide))⟩
    · exact ⟨_, vk_R.of (tx := " upper") (hts _ (List.mem_of_getElem? (i := 1015) (by decide +kernel))) (hev 10 (by decide))⟩
    · exact ⟨_, vk_R.of (tx := ";") (hts _ (List.mem_of_getElem? (i := 1016) (by decide +kernel))) (hev 7 (by decide))⟩
  · exact ⟨va_AO.of wL, va_Nw.of (w := .methodLinkNest RX11 25 yX8_init "BentShares") rfl (hts _ (List.mem_of_getElem? (i := 62) (by decide +kernel))), va_Nw.of (w := .methodLinkNest RX8 42 yX1_init "BentShares") rfl (hts _ (List.mem_of_getElem? (i := 68) (by decide +kernel))), va_Nw.of (w := .methodLinkNest RX6 60 yX1_init "BentShares") rfl (hts _ (List.mem_of_getElem? (i := 183) (by decide +kernel))), va_Nw.of (w := .methodLinkNest RX11 60 yX7_init "BentShares") rfl (hts _ (List.mem_of_getElem? (i := 277) (by decide +kernel))), va_Nw.of (w := .methodLinkNest RX11 120 yX10_init "BentShares") rfl (hts _ (List.mem_of_getElem? (i := 385) (by decide +kernel)))⟩
  · have ee : p6 = a5 := Option.some.inj (e60.symm.trans e53)
    rw [e62, ee]
    rfl
  · have ee : p5 = aI := Option.some.inj (e50.symm.trans eI1)
    rw [e52, ee]
    rfl
