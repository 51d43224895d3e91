/-! what holds at the law's entry -/
def NWl : List Cond := flatC (Cond.and given_1 narrow_1)
def tmS (i : Nat) : Term := match i with
  | 0 => .string "BentShares$Reader" 113
  | 1 => .string "BentShares$Reader" 115
  | 2 => .string "BentShares$Reader" 117
  | 3 => .string "BentShares$Reader" 103
  | 4 => .string "BentShares$Reader" 109
  | 5 => .string "BentShares$Reader" 111
  | 6 => .string "BentShares$Teller" 30
  | 7 => .string "BentShares$Teller" 57
  | 8 => .string "BentSharesModel" 455
  | 9 => .string "BentShares$Teller" 42
  | 10 => .string "BentShares$Teller" 44
  | _ => .string "BentShares$Teller" 46
def ixEx : List Nat := [65, 77, 90, 39, 48, 57, 119, 190, 368, 133, 151, 170]
def ixCo : List Nat := [66, 78, 91, 40, 49, 58, 120, 191, 369, 134, 152, 171]
def ixAr : List Nat := [67, 79, 92, 41, 50, 59, 121, 192, 370, 135, 153, 172]
def ixLn : List Nat := [68, 80, 93, 42, 51, 60, 122, 193, 371, 136, 154, 173]
def ixEl : List (List Nat) := [[69, 70, 71, 72, 73], [81, 82, 83, 84, 85], [94, 95, 96, 97, 98], [43, 44, 45, 46, 47], [52, 53, 54, 55], [61, 62], [123, 124, 125], [194], [372], [137, 138, 139, 140, 141, 142], [155, 156, 157, 158, 159, 160], [174, 175, 176, 177, 178, 179]]
def ixNe : List (List Nat) := [[0, 89, 102, 74, 75, 76, 129, 198, 376, 146, 164, 183], [89, 0, 103, 86, 87, 88, 130, 199, 377, 147, 165, 184], [102, 103, 0, 99, 100, 101, 131, 200, 378, 148, 166, 185], [74, 86, 99, 0, 56, 63, 126, 195, 373, 143, 161, 180], [75, 87, 100, 56, 0, 64, 127, 196, 374, 144, 162, 181], [76, 88, 101, 63, 64, 0, 128, 197, 375, 145, 163, 182], [129, 130, 131, 126, 127, 128, 0, 202, 380, 150, 168, 187], [198, 199, 200, 195, 196, 197, 202, 0, 384, 203, 204, 205], [376, 377, 378, 373, 374, 375, 380, 384, 0, 381, 382, 383], [146, 147, 148, 143, 144, 145, 150, 203, 381, 0, 169, 188], [164, 165, 166, 161, 162, 163, 168, 204, 382, 169, 0, 189], [183, 184, 185, 180, 181, 182, 187, 205, 383, 188, 189, 0]]
set_option maxRecDepth 100000 in
theorem nw_ex : ∀ i ∈ List.range 12, NWl[ixEx.getD i 0]? = some (Cond.exactly (tmS i) "java/lang/String") := by decide +kernel
set_option maxRecDepth 100000 in
theorem nw_co : ∀ i ∈ List.range 12, NWl[ixCo.getD i 0]? = some (Cond.eq (.field (tmS i) "java/lang/String" "coder" "B") (.int 0)) := by decide +kernel
set_option maxRecDepth 100000 in
theorem nw_ar : ∀ i ∈ List.range 12, NWl[ixAr.getD i 0]? = some (Cond.arrayOf (.field (tmS i) "java/lang/String" "value" "[B") .byte) := by decide +kernel
set_option maxRecDepth 100000 in
theorem nw_ln : ∀ i ∈ List.range 12, NWl[ixLn.getD i 0]? = some (Cond.eq (.length (.field (tmS i) "java/lang/String" "value" "[B")) (.int (Int32.ofNat (strLen.getD i 0)))) := by decide +kernel
set_option maxRecDepth 100000 in
theorem nw_el : ∀ i ∈ List.range 12, ∀ j ∈ List.range (strLen.getD i 0), NWl[(ixEl.getD i []).getD j 0]? = some (Cond.eq (.elem (.field (tmS i) "java/lang/String" "value" "[B") (.int (Int32.ofNat j))) (.int ((strByt.getD i []).getD j 0))) := by decide +kernel
set_option maxRecDepth 100000 in
theorem nw_ne : ∀ i ∈ List.range 12, ∀ j ∈ List.range 12, i ≠ j → NWl[(ixNe.getD i []).getD j 0]? = some (Cond.not (Cond.eq (tmS i) (tmS j))) ∨ NWl[(ixNe.getD i []).getD j 0]? = some (Cond.not (Cond.eq (tmS j) (tmS i))) := by decide +kernel
theorem strLen_lt : ∀ i ∈ List.range 12, strLen.getD i 0 < 2 ^ 31 := by decide +kernel
theorem nw_sof {s : State} {b : Nat} (hn : ∀ w ∈ NWl, w.before #[Value.ref b] s = true) : ∃ adK adV : Nat → Nat, vk_S strN strLen strByt adK adV (fun q => s.heap.size ≤ q) s s.heap ∧ ∀ i : Nat, i < 12 → (tmS i).eval #[Value.ref b] s none [] s = some (.ref (adK i)) := by
  refine vk_Sof (tm := tmS) (fun i hi => strLen_lt i (List.mem_range.mpr hi)) (fun i hi => hn _ (List.mem_of_getElem? (nw_ex i (List.mem_range.mpr hi)))) (fun i hi => hn _ (List.mem_of_getElem? (nw_co i (List.mem_range.mpr hi)))) (fun i hi => hn _ (List.mem_of_getElem? (nw_ar i (List.mem_range.mpr hi)))) (fun i hi => hn _ (List.mem_of_getElem? (nw_ln i (List.mem_range.mpr hi)))) (fun i hi j hj => hn _ (List.mem_of_getElem? (nw_el i (List.mem_range.mpr hi) j (List.mem_range.mpr hj)))) (fun i j hi hj hij => ?_) (fun a ha => by show ¬ s.heap.size ≤ a; omega)
  rcases nw_ne i (List.mem_range.mpr hi) j (List.mem_range.mpr hj) hij with q | q
  · exact Or.inl (hn _ (List.mem_of_getElem? q))
  · exact Or.inr (hn _ (List.mem_of_getElem? q))
def idsOf (cs : List Nat) (b L f g : Nat) (adK adV : Nat → Nat) (n : Nat) : Nat := if n < 5 then cs.getD n 0 else if n = 10 then b else if n = 11 then L else if n = 12 then f else if n = 13 then g else if n < 20 then 0 else if n < 40 then adK (n - 20) else adV (n - 40)
theorem ib_X11 : Cond.instantiable RX11 21 ∈ tblG := tin 126 (by decide +kernel) (by decide)
theorem ib_X12 : Cond.instantiable RX12 59 ∈ tblG := tin 1389 (by decide +kernel) (by decide)
theorem env_start {s : State} {b L : Nat} {xs : Nat → Int32} (hts : ∀ w ∈ lw_tbl, w.before #[Value.ref b] s = true) (hX : va_X b L xs s s.heap) (hb : b < s.heap.size) (hL : L ≤ 3072) (hp : (Cond.and given_1 narrow_1).before #[Value.ref b] s = true) : ∃ G : GG, G.1 = s.heap.size ∧ G.2.2.1 10 = b ∧ G.2.2.1 11 = L ∧ Env G s s.heap ∧ NX s := by
  have hn : ∀ w ∈ NWl, w.before #[Value.ref b] s = true := flat_of_before _ hp
  have htg : ∀ w ∈ tblG, w.before #[Value.ref b] s = true := fun w hw => hts w (List.mem_filter.mp hw).1
  obtain ⟨c0, i0, k0⟩ := u_known (C := RX0) (T := TX0) (N := 4) (n := 4) htg inG_X0 (htg _ ib_X0)
  obtain ⟨c1, i1, k1⟩ := u_known (C := RX1) (T := TX1) (N := 7) (n := 7) htg inG_X1 (htg _ ib_X1)
  obtain ⟨c2, i2, k2⟩ := u_known (C := RX2) (T := TX2) (N := 4) (n := 4) htg inG_X2 (htg _ ib_X2)
  obtain ⟨c3, i3, k3⟩ := u_known (C := RX3) (T := TX3) (N := 4) (n := 4) htg inG_X3 (htg _ ib_X3)
  obtain ⟨c4, i4, k4⟩ := u_known (C := RX4) (T := TX4) (N := 8) (n := 8) htg inG_X4 (htg _ ib_X4)
  obtain ⟨c5, i5, k5⟩ := u_known (C := RX5) (T := TX5) (N := 3) (n := 3) htg inG_X5 (htg _ ib_X5)
  obtain ⟨c6, i6, k6⟩ := u_known (C := RX6) (T := TX6) (N := 18) (n := 18) htg inG_X6 (htg _ ib_X6)
  obtain ⟨c7, i7, k7⟩ := u_known (C := RX7) (T := TX7) (N := 4) (n := 4) htg inG_X7 (htg _ ib_X7)
  obtain ⟨c8, i8, k8⟩ := u_known (C := RX8) (T := TX8) (N := 10) (n := 10) htg inG_X8 (htg _ ib_X8)
  obtain ⟨c9, i9, k9⟩ := u_known (C := RX9) (T := TX9) (N := 7) (n := 7) htg inG_X9 (htg _ ib_X9)
  obtain ⟨c10, i10, k10⟩ := u_known (C := RX10) (T := TX10) (N := 2) (n := 2) htg inG_X10 (htg _ ib_X10)
  obtain ⟨c11, i11, k11⟩ := u_known (C := RX11) (T := TX11) (N := 21) (n := 21) htg inG_X11 (htg _ ib_X11)
  obtain ⟨c12, i12, k12⟩ := u_known (C := RX12) (T := TX12) (N := 59) (n := 59) htg inG_X12 (htg _ ib_X12)
  obtain ⟨aI, bI, pI, eI1, eI2, eI3⟩ := Cond.arrayClass_spec (args := #[Value.ref b]) (first := s) (o := none) (s := s) (idx := []) (htg _ abI)
  obtain ⟨aZ, bZ, pZ, eZ1, eZ2, eZ3⟩ := Cond.arrayClass_spec (args := #[Value.ref b]) (first := s) (o := none) (s := s) (idx := []) (htg _ abZ)
  obtain ⟨aJ, bJ, pJ, eJ1, eJ2, eJ3⟩ := Cond.arrayClass_spec (args := #[Value.ref b]) (first := s) (o := none) (s := s) (idx := []) (htg _ abJ)
  have wL : (Cond.arrayOver (.object RX6)).before #[Value.ref b] s = true := hts _ (List.mem_of_getElem? (i := 358) (by decide +kernel))
  obtain ⟨pL, aL, bL, eL0, -, eL1, eL2, eL3⟩ := Cond.arrayOver_spec (args := #[Value.ref b]) (first := s) (o := none) (s := s) (idx := []) wL
  have wS : (Cond.arrayOver (.object "java/lang/String")).before #[Value.ref b] s = true := hts _ (List.mem_of_getElem? (i := 1395) (by decide +kernel))
  obtain ⟨pS, aS, bS, eS0, -, eS1, eS2, eS3⟩ := Cond.arrayOver_spec (args := #[Value.ref b]) (first := s) (o := none) (s := s) (idx := []) wS
  obtain ⟨adK, adV, hS, hev⟩ := nw_sof hn
  obtain ⟨fv, hf1, hf2⟩ := Cond.isRef_spec (args := #[Value.ref b]) (first := s) (o := none) (s := s) (idx := []) (hn (Cond.isRef (.static "jdk/internal/util/Preconditions" "SIOOBE_FORMATTER" "Ljava/util/function/BiFunction;")) (List.mem_of_getElem? (i := 7) (by decide +kernel)))
  obtain ⟨f, g, rfl⟩ : ∃ f g : Nat, fv = if g = 0 then Value.null else Value.ref f := by
    cases fv with
    | ref f => exact ⟨f, 1, rfl⟩
    | null => exact ⟨0, 0, rfl⟩
    | _ => simp [Value.isRef] at hf2
  have hA : ∀ a : Nat, a < s.heap.size → ¬ s.heap.size ≤ a := fun a ha => by omega
  let dC : Nat → ClassId := fun n => [c0, c1, c2, c3, c4, c5, c6, c7, c8, c9, c10, c11, c12].getD n 0
  let dI : Nat → Nat → Nat := fun n => [i0, i1, i2, i3, i4, i5, i6, i7, i8, i9, i10, i11, i12].getD n (fun _ => 0)
  let ids : Nat → Nat := idsOf [aI, aZ, aJ, aL, aS] b L f g adK adV
  refine ⟨(s.heap.size, ((dC, dI), (ids, xs))), rfl, rfl, rfl, ⟨⟨?_, ?_⟩, ?_, ?_, hX, hb, hL, ⟨?_, ?_, ?_⟩, ?_, Nat.le_refl _, ?_⟩, ?_⟩
  · intro c q hq
    match c, hq with
    | 0, hq => cases hq; exact k0
    | 1, hq => cases hq; exact k1
    | 2, hq => cases hq; exact k2
    | 3, hq => cases hq; exact k3
    | 4, hq => cases hq; exact k4
    | 5, hq => cases hq; exact k5
    | 6, hq => cases hq; exact k6
    | 7, hq => cases hq; exact k7
    | 8, hq => cases hq; exact k8
    | 9, hq => cases hq; exact k9
    | 10, hq => cases hq; exact k10
    | 11, hq => cases hq; exact k11
    | 12, hq => cases hq; exact k12
    | c + 13, hq => exact absurd hq (by simp)
  · intro k q hq
    match k, hq with
    | 0, hq => cases hq; exact ⟨fun n z => ⟨fun k h => (by cases h), bI, eI2, pI, eI3⟩, eI1⟩
    | 1, hq => cases hq; exact ⟨fun n z => ⟨fun k h => (by cases h), bZ, eZ2, pZ, eZ3⟩, eZ1⟩
    | 2, hq => cases hq; exact ⟨fun n z => ⟨fun k h => (by cases h), bJ, eJ2, pJ, eJ3⟩, eJ1⟩
    | 3, hq => cases hq; exact ⟨fun n z => ⟨fun k h => (by cases h), bL, eL1, pL, eL2⟩, bL, pL, eL1, eL2, eL0, eL3⟩
    | 4, hq => cases hq; exact ⟨fun n z => ⟨fun k h => (by cases h), bS, eS1, pS, eS2⟩, bS, pS, eS1, eS2, eS0, eS3⟩
    | k + 5, hq => exact absurd hq (by simp [tysOf])
  · exact vx_Zqof (hts _ (List.mem_of_getElem? (i := 830) (by decide +kernel))) (hts _ (List.mem_of_getElem? (i := 113) (by decide +kernel))) (hn _ (List.mem_of_getElem? (i := 4) (by decide +kernel))) hA
  · exact vx_Zqof (hts _ (List.mem_of_getElem? (i := 832) (by decide +kernel))) (hts _ (List.mem_of_getElem? (i := 113) (by decide +kernel))) (hn _ (List.mem_of_getElem? (i := 5) (by decide +kernel))) hA
  · refine ⟨fun i hi => ?_, fun i j hi hj e => ?_⟩
    · have hi' : i < 12 := hi
      have := hS.1 i hi
      show va_O _ (ids (20 + i)) _ _ _ ∧ va_OF _ _ _ _ (ids (20 + i)) _ _ _ ∧ va_OF _ _ _ (.ref (ids (40 + i))) (ids (20 + i)) _ _ _ ∧ va_T _ (ids (40 + i)) _ _ _ _ _
      have j1 : ids (20 + i) = adK i := by
        show idsOf _ _ _ _ _ _ _ _ = _
        unfold idsOf
        rw [if_neg (by omega), if_neg (by omega), if_neg (by omega), if_neg (by omega), if_neg (by omega), if_neg (by omega), if_pos (by omega), show 20 + i - 20 = i by omega]
      have j2 : ids (40 + i) = adV i := by
        show idsOf _ _ _ _ _ _ _ _ = _
        unfold idsOf
        rw [if_neg (by omega), if_neg (by omega), if_neg (by omega), if_neg (by omega), if_neg (by omega), if_neg (by omega), if_neg (by omega), show 40 + i - 40 = i by omega]
      rw [j1, j2]
      exact this
    · have hi' : i < 12 := hi
      have hj' : j < 12 := hj
      have e' : ids (20 + i) = ids (20 + j) := e
      have j1 : ∀ i, i < 12 → ids (20 + i) = adK i := by
        intro i hi'
        show idsOf _ _ _ _ _ _ _ _ = _
        unfold idsOf
        rw [if_neg (by omega), if_neg (by omega), if_neg (by omega), if_neg (by omega), if_neg (by omega), if_neg (by omega), if_pos (by omega), show 20 + i - 20 = i by omega]
      rw [j1 i hi', j1 j hj'] at e'
      exact hS.2 i j hi hj e'
  · exact va_Zof (hts _ (List.mem_of_getElem? (i := 907) (by decide +kernel))) (hts _ (List.mem_of_getElem? (i := 118) (by decide +kernel))) (va_eqt (hn _ (List.mem_of_getElem? (i := 6) (by decide +kernel)))) hA
  · have hv : cv (s.heap.size, ((dC, dI), (ids, xs))) (8, 0) = (if g = 0 then Value.null else Value.ref f) := rfl
    rw [hv]
    exact va_Zof (hts _ (List.mem_of_getElem? (i := 923) (by decide +kernel))) (hts _ (List.mem_of_getElem? (i := 120) (by decide +kernel))) hf1 hA
  · intro q hq
    unfold ldcT at hq
    simp only [List.mem_cons, List.not_mem_nil, or_false] at hq
    rcases hq with rfl | rfl | rfl | rfl | rfl | rfl | rfl | rfl | rfl | rfl | rfl | rfl | rfl | rfl | rfl | rfl | rfl | rfl | rfl | rfl | rfl
    · exact ⟨_, vk_R.of (tx := "class") (hts _ (List.mem_of_getElem? (i := 893) (by decide +kernel))) (hev 3 (by decide))⟩
    · exact ⟨_, vk_R.of (tx := "flow") (hts _ (List.mem_of_getElem? (i := 946) (by decide +kernel))) (hev 4 (by decide))⟩
    · exact ⟨_, vk_R.of (tx := "in") (hts _ (List.mem_of_getElem? (i := 947) (by decide +kernel))) (hev 5 (by decide))⟩
    · exact ⟨_, vk_R.of (tx := "grant") (hts _ (List.mem_of_getElem? (i := 948) (by decide +kernel))) (hev 0 (by decide))⟩
    · exact ⟨_, vk_R.of (tx := "share") (hts _ (List.mem_of_getElem? (i := 949) (by decide +kernel))) (hev 1 (by decide))⟩
    · exact ⟨_, vk_R.of (tx := "upper") (hts _ (List.mem_of_getElem? (i := 950) (by decide +kernel))) (hev 2 (by decide))⟩
    · exact ⟨_, vk_R.of (tx := "class") (hts _ (List.mem_of_getElem? (i := 1367) (by decide +kernel))) (va_eqR (hn _ (List.mem_of_getElem? (i := 113) (by decide +kernel))) (hev 3 (by decide)))⟩
    · exact ⟨_, vk_R.of (tx := " in") (hts _ (List.mem_of_getElem? (i := 1378) (by decide +kernel))) (hev 6 (by decide))⟩
    · exact ⟨_, vk_R.of (tx := " grant") (hts _ (List.mem_of_getElem? (i := 1384) (by decide +kernel))) (hev 9 (by decide))⟩
    · exact ⟨_, vk_R.of (tx := " share") (hts _ (List.mem_of_getElem? (i := 1385) (by decide +kernel))) (hev 10 (by decide))⟩
    · exact ⟨_, vk_R.of (tx := " upper") (hts _ (List.mem_of_getElem? (i := 1386) (by decide +kernel))) (hev 11 (by decide))⟩
    · exact ⟨_, vk_R.of (tx := ";") (hts _ (List.mem_of_getElem? (i := 1387) (by decide +kernel))) (hev 7 (by decide))⟩
    · exact ⟨_, vk_R.of (tx := "share") (hts _ (List.mem_of_getElem? (i := 1397) (by decide +kernel))) (va_eqR (hn _ (List.mem_of_getElem? (i := 240) (by decide +kernel))) (hev 1 (by decide)))⟩
    · exact ⟨_, vk_R.of (tx := "upper") (hts _ (List.mem_of_getElem? (i := 1398) (by decide +kernel))) (va_eqR (hn _ (List.mem_of_getElem? (i := 263) (by decide +kernel))) (hev 2 (by decide)))⟩
    · exact ⟨_, vk_R.of (tx := "in") (hts _ (List.mem_of_getElem? (i := 1636) (by decide +kernel))) (va_eqR (hn _ (List.mem_of_getElem? (i := 304) (by decide +kernel))) (hev 5 (by decide)))⟩
    · exact ⟨_, vk_R.of (tx := "class") (hts _ (List.mem_of_getElem? (i := 1617) (by decide +kernel))) (va_eqR (hn _ (List.mem_of_getElem? (i := 281) (by decide +kernel))) (hev 3 (by decide)))⟩
    · exact ⟨_, vk_R.of (tx := "flow") (hts _ (List.mem_of_getElem? (i := 1657) (by decide +kernel))) (va_eqR (hn _ (List.mem_of_getElem? (i := 327) (by decide +kernel))) (hev 4 (by decide)))⟩
    · exact ⟨_, vk_R.of (tx := " in") (hts _ (List.mem_of_getElem? (i := 2000) (by decide +kernel))) (va_eqR (hn _ (List.mem_of_getElem? (i := 357) (by decide +kernel))) (hev 6 (by decide)))⟩
    · exact ⟨_, vk_R.of (tx := " ") (hts _ (List.mem_of_getElem? (i := 2005) (by decide +kernel))) (hev 8 (by decide))⟩
    · exact ⟨_, vk_R.of (tx := ";") (hts _ (List.mem_of_getElem? (i := 2006) (by decide +kernel))) (va_eqR (hn _ (List.mem_of_getElem? (i := 408) (by decide +kernel))) (hev 7 (by decide)))⟩
    · exact ⟨_, vk_R.of (tx := "grant") (hts _ (List.mem_of_getElem? (i := 1396) (by decide +kernel))) (va_eqR (hn _ (List.mem_of_getElem? (i := 218) (by decide +kernel))) (hev 0 (by decide)))⟩
  · exact ⟨va_Nw.of (w := .castable "java/util/NoSuchElementException" "java/util/NoSuchElementException") rfl (hts _ (List.mem_of_getElem? (i := 1039) (by decide +kernel))), va_Nw.of (w := .castable "java/lang/IllegalArgumentException" "java/lang/IllegalArgumentException") rfl (hts _ (List.mem_of_getElem? (i := 805) (by decide +kernel))), va_Nw.of (w := .declares (Bundle.init0 "java/lang/Throwable")) rfl (hts _ (List.mem_of_getElem? (i := 810) (by decide +kernel))), va_Nw.of (w := .declares (Bundle.init0 "java/lang/RuntimeException")) rfl (hts _ (List.mem_of_getElem? (i := 806) (by decide +kernel))), va_Nw.of (w := .declares (Bundle.init0 "java/lang/Exception")) rfl (hts _ (List.mem_of_getElem? (i := 808) (by decide +kernel))), va_Nc.of (hn _ (List.mem_of_getElem? (i := 38) (by decide +kernel)))⟩
  · exact ⟨va_AO.of wL, va_AO.of wS, va_Nw.of (w := .methodLinkNest RX11 25 yX8_init "BentShares") rfl (hts _ (List.mem_of_getElem? (i := 135) (by decide +kernel))), va_Nw.of (w := .methodLinkNest RX8 42 yX1_init "BentShares") rfl (hts _ (List.mem_of_getElem? (i := 141) (by decide +kernel))), va_Nw.of (w := .methodLinkNest RX6 60 yX1_init "BentShares") rfl (hts _ (List.mem_of_getElem? (i := 266) (by decide +kernel))), va_Nw.of (w := .methodLinkNest RX11 60 yX7_init "BentShares") rfl (hts _ (List.mem_of_getElem? (i := 372) (by decide +kernel))), va_Nw.of (w := .methodLinkNest RX11 120 yX10_init "BentShares") rfl (hts _ (List.mem_of_getElem? (i := 486) (by decide +kernel)))⟩
