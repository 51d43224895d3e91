/-! the constructors: what each makes -/
def lineOff : List (Nat × Nat) := [(0, 6), (1, 24), (2, 25), (3, 26), (4, 27), (5, 28), (6, 29), (7, 30), (8, 31), (9, 32), (10, 1), (11, 13), (12, 14), (13, 15), (14, 16), (15, 17), (16, 18), (17, 19), (18, 33)]
def curvOff : List (Nat × Nat) := [(0, 1), (1, 13), (2, 14), (3, 15), (4, 16), (5, 17), (6, 18), (7, 19)]
def LineAt (a : Nat) (i : Int) : Prop := ∀ n k : Nat, (n, k) ∈ lineOff → cat (a + n) k i
def CurvAt (a : Nat) (i : Int) : Prop := ∀ n k : Nat, (n, k) ∈ curvOff → cat (a + n) k i
theorem CurvAt.of_line {a : Nat} {i : Int} (hL : LineAt a i) : CurvAt (a + 10) i := by
  intro n k hn
  have h1 : (10 + n, k) ∈ lineOff := (by decide : ∀ q ∈ curvOff, (10 + q.1, q.2) ∈ lineOff) (n, k) hn
  have := hL (10 + n) k h1
  rw [← Nat.add_assoc] at this
  exact this
theorem curvAt_1 : CurvAt 11 1 := fun n k hn => (by unfold cat; decide : ∀ q ∈ curvOff, cat (11 + q.1) q.2 1) (n, k) hn
theorem curvAt_2 : CurvAt 27 2 := fun n k hn => (by unfold cat; decide : ∀ q ∈ curvOff, cat (27 + q.1) q.2 2) (n, k) hn
theorem lineAt_10 : LineAt 36 10 := fun n k hn => (by unfold cat; decide : ∀ q ∈ lineOff, cat (36 + q.1) q.2 10) (n, k) hn
theorem lineAt_11 : LineAt 821 11 := fun n k hn => (by unfold cat; decide : ∀ q ∈ lineOff, cat (821 + q.1) q.2 11) (n, k) hn
theorem lineAt_12 : LineAt 1607 12 := fun n k hn => (by unfold cat; decide : ∀ q ∈ lineOff, cat (1607 + q.1) q.2 12) (n, k) hn
set_option maxRecDepth 100000 in
theorem lineAll_3 : ∀ q ∈ List.range 40, ∀ z ∈ lineOff, kAt z.2 (20 + (q : Int)) = 57 + 19 * q + z.1 ∧ kOk z.2 (20 + (q : Int)) = true := by decide +kernel
set_option maxRecDepth 100000 in
theorem lineAll_4 : ∀ q ∈ List.range 40, ∀ z ∈ lineOff, kAt z.2 (60 + (q : Int)) = 842 + 19 * q + z.1 ∧ kOk z.2 (60 + (q : Int)) = true := by decide +kernel
theorem lineAt_h3 {q : Nat} (hq : q < 40) : LineAt (57 + 19 * q) (20 + (q : Int)) := fun n k hn => lineAll_3 q (List.mem_range.mpr hq) (n, k) hn
theorem lineAt_h4 {q : Nat} (hq : q < 40) : LineAt (842 + 19 * q) (60 + (q : Int)) := fun n k hn => lineAll_4 q (List.mem_range.mpr hq) (n, k) hn
def hist (h : HP) (b : Int) : Nat → HP
  | 0 => h
  | n + 1 => up (hist h b n) 6 (b + (n : Int)) 5 (-1)
theorem hist_k {h : HP} {b : Int} {n k' : Nat} (hk : k' ≠ 6) : hist h b n k' = h k' := by
  induction n with
  | zero => rfl
  | succ n ih => show up _ 6 _ 5 _ k' = _; rw [up_k hk, ih]
theorem ob2 : Cond.instanceMethod Lib.objectInit ∈ tblG := tin 58 (by decide +kernel) (by decide)
theorem ob3 : Cond.code Lib.objectInit ⟨#[0xb1]⟩ 1 none ∈ tblG := tin 59 (by decide +kernel) (by decide)
theorem abI : Cond.arrayClass (newarray.typeOf .int) ∈ tblG := tin 99 (by decide +kernel) (by decide)
theorem mb_X1_3 : Cond.methodLink RX1 3 Lib.objectInit ∈ tblG := tin 71 (by decide +kernel) (by decide)
theorem fb_X1_11 : FLok RX1 11 1 0 := ⟨RX1, TX1, 7, rfl, inG_X1, by decide, rfl, tin 72 (by decide +kernel) (by decide)⟩
theorem ff_X1_0 : FFok 1 0 (tyX1 0) := ⟨RX1, TX1, 7, tyX1, rfl, tyX1_ok, nmX1, rfl, rfl, fun _ => ⟨rfl, rfl⟩⟩
theorem fb_X1_15 : FLok RX1 15 1 1 := ⟨RX1, TX1, 7, rfl, inG_X1, by decide, rfl, tin 75 (by decide +kernel) (by decide)⟩
theorem ff_X1_1 : FFok 1 1 (tyX1 1) := ⟨RX1, TX1, 7, tyX1, rfl, tyX1_ok, nmX1, rfl, rfl, fun _ => ⟨rfl, rfl⟩⟩
theorem fb_X1_18 : FLok RX1 18 1 2 := ⟨RX1, TX1, 7, rfl, inG_X1, by decide, rfl, tin 77 (by decide +kernel) (by decide)⟩
theorem ff_X1_2 : FFok 1 2 (tyX1 2) := ⟨RX1, TX1, 7, tyX1, rfl, tyX1_ok, nmX1, rfl, rfl, fun _ => ⟨rfl, rfl⟩⟩
theorem fb_X1_21 : FLok RX1 21 1 3 := ⟨RX1, TX1, 7, rfl, inG_X1, by decide, rfl, tin 80 (by decide +kernel) (by decide)⟩
theorem ff_X1_3 : FFok 1 3 (tyX1 3) := ⟨RX1, TX1, 7, tyX1, rfl, tyX1_ok, nmX1, rfl, rfl, fun _ => ⟨rfl, rfl⟩⟩
theorem fb_X1_24 : FLok RX1 24 1 4 := ⟨RX1, TX1, 7, rfl, inG_X1, by decide, rfl, tin 81 (by decide +kernel) (by decide)⟩
theorem ff_X1_4 : FFok 1 4 (tyX1 4) := ⟨RX1, TX1, 7, tyX1, rfl, tyX1_ok, nmX1, rfl, rfl, fun _ => ⟨rfl, rfl⟩⟩
theorem fb_X1_27 : FLok RX1 27 1 5 := ⟨RX1, TX1, 7, rfl, inG_X1, by decide, rfl, tin 82 (by decide +kernel) (by decide)⟩
theorem ff_X1_5 : FFok 1 5 (tyX1 5) := ⟨RX1, TX1, 7, tyX1, rfl, tyX1_ok, nmX1, rfl, rfl, fun _ => ⟨rfl, rfl⟩⟩
theorem fb_X1_30 : FLok RX1 30 1 6 := ⟨RX1, TX1, 7, rfl, inG_X1, by decide, rfl, tin 83 (by decide +kernel) (by decide)⟩
theorem ff_X1_6 : FFok 1 6 (tyX1 6) := ⟨RX1, TX1, 7, tyX1, rfl, tyX1_ok, nmX1, rfl, rfl, fun _ => ⟨rfl, rfl⟩⟩
theorem mb_X6_3 : Cond.methodLink RX6 3 Lib.objectInit ∈ tblG := tin 181 (by decide +kernel) (by decide)
theorem fb_X6_9 : FLok RX6 9 6 1 := ⟨RX6, TX6, 18, rfl, inG_X6, by decide, rfl, tin 185 (by decide +kernel) (by decide)⟩
theorem gp_X6_1 : FPok 6 1 .int := ⟨RX6, TX6, 18, tyX6, rfl, tyX6_ok, nmX6, rfl, rfl⟩
theorem fb_X6_15 : FLok RX6 15 6 2 := ⟨RX6, TX6, 18, rfl, inG_X6, by decide, rfl, tin 188 (by decide +kernel) (by decide)⟩
theorem gp_X6_2 : FPok 6 2 .int := ⟨RX6, TX6, 18, tyX6, rfl, tyX6_ok, nmX6, rfl, rfl⟩
theorem fb_X6_18 : FLok RX6 18 6 3 := ⟨RX6, TX6, 18, rfl, inG_X6, by decide, rfl, tin 190 (by decide +kernel) (by decide)⟩
theorem gp_X6_3 : FPok 6 3 .int := ⟨RX6, TX6, 18, tyX6, rfl, tyX6_ok, nmX6, rfl, rfl⟩
theorem fb_X6_21 : FLok RX6 21 6 4 := ⟨RX6, TX6, 18, rfl, inG_X6, by decide, rfl, tin 193 (by decide +kernel) (by decide)⟩
theorem gp_X6_4 : FPok 6 4 .int := ⟨RX6, TX6, 18, tyX6, rfl, tyX6_ok, nmX6, rfl, rfl⟩
theorem fb_X6_24 : FLok RX6 24 6 5 := ⟨RX6, TX6, 18, rfl, inG_X6, by decide, rfl, tin 196 (by decide +kernel) (by decide)⟩
theorem gp_X6_5 : FPok 6 5 .int := ⟨RX6, TX6, 18, tyX6, rfl, tyX6_ok, nmX6, rfl, rfl⟩
theorem fb_X6_27 : FLok RX6 27 6 6 := ⟨RX6, TX6, 18, rfl, inG_X6, by decide, rfl, tin 199 (by decide +kernel) (by decide)⟩
theorem gp_X6_6 : FPok 6 6 .int := ⟨RX6, TX6, 18, tyX6, rfl, tyX6_ok, nmX6, rfl, rfl⟩
theorem fb_X6_30 : FLok RX6 30 6 7 := ⟨RX6, TX6, 18, rfl, inG_X6, by decide, rfl, tin 200 (by decide +kernel) (by decide)⟩
theorem ff_X6_7 : FFok 6 7 (tyX6 7) := ⟨RX6, TX6, 18, tyX6, rfl, tyX6_ok, nmX6, rfl, rfl, fun _ => ⟨rfl, rfl⟩⟩
theorem fb_X6_34 : FLok RX6 34 6 8 := ⟨RX6, TX6, 18, rfl, inG_X6, by decide, rfl, tin 202 (by decide +kernel) (by decide)⟩
theorem ff_X6_8 : FFok 6 8 (tyX6 8) := ⟨RX6, TX6, 18, tyX6, rfl, tyX6_ok, nmX6, rfl, rfl, fun _ => ⟨rfl, rfl⟩⟩
theorem fb_X6_37 : FLok RX6 37 6 9 := ⟨RX6, TX6, 18, rfl, inG_X6, by decide, rfl, tin 204 (by decide +kernel) (by decide)⟩
theorem ff_X6_9 : FFok 6 9 (tyX6 9) := ⟨RX6, TX6, 18, tyX6, rfl, tyX6_ok, nmX6, rfl, rfl, fun _ => ⟨rfl, rfl⟩⟩
theorem fb_X6_40 : FLok RX6 40 6 10 := ⟨RX6, TX6, 18, rfl, inG_X6, by decide, rfl, tin 206 (by decide +kernel) (by decide)⟩
theorem ff_X6_10 : FFok 6 10 (tyX6 10) := ⟨RX6, TX6, 18, tyX6, rfl, tyX6_ok, nmX6, rfl, rfl, fun _ => ⟨rfl, rfl⟩⟩
theorem fb_X6_43 : FLok RX6 43 6 11 := ⟨RX6, TX6, 18, rfl, inG_X6, by decide, rfl, tin 208 (by decide +kernel) (by decide)⟩
theorem ff_X6_11 : FFok 6 11 (tyX6 11) := ⟨RX6, TX6, 18, tyX6, rfl, tyX6_ok, nmX6, rfl, rfl, fun _ => ⟨rfl, rfl⟩⟩
theorem fb_X6_46 : FLok RX6 46 6 12 := ⟨RX6, TX6, 18, rfl, inG_X6, by decide, rfl, tin 210 (by decide +kernel) (by decide)⟩
theorem ff_X6_12 : FFok 6 12 (tyX6 12) := ⟨RX6, TX6, 18, tyX6, rfl, tyX6_ok, nmX6, rfl, rfl, fun _ => ⟨rfl, rfl⟩⟩
theorem fb_X6_49 : FLok RX6 49 6 13 := ⟨RX6, TX6, 18, rfl, inG_X6, by decide, rfl, tin 213 (by decide +kernel) (by decide)⟩
theorem ff_X6_13 : FFok 6 13 (tyX6 13) := ⟨RX6, TX6, 18, tyX6, rfl, tyX6_ok, nmX6, rfl, rfl, fun _ => ⟨rfl, rfl⟩⟩
theorem fb_X6_52 : FLok RX6 52 6 14 := ⟨RX6, TX6, 18, rfl, inG_X6, by decide, rfl, tin 214 (by decide +kernel) (by decide)⟩
theorem ff_X6_14 : FFok 6 14 (tyX6 14) := ⟨RX6, TX6, 18, tyX6, rfl, tyX6_ok, nmX6, rfl, rfl, fun _ => ⟨rfl, rfl⟩⟩
theorem fb_X6_55 : FLok RX6 55 6 15 := ⟨RX6, TX6, 18, rfl, inG_X6, by decide, rfl, tin 215 (by decide +kernel) (by decide)⟩
theorem ff_X6_15 : FFok 6 15 (tyX6 15) := ⟨RX6, TX6, 18, tyX6, rfl, tyX6_ok, nmX6, rfl, rfl, fun _ => ⟨rfl, rfl⟩⟩
theorem cb_X6_58 : Cond.classLink RX6 58 RX1 ∈ tblG := tin 182 (by decide +kernel) (by decide)
theorem ib_X1 : Cond.instantiable RX1 7 ∈ tblG := tin 67 (by decide +kernel) (by decide)
theorem nb_X1 : Cond.initialized RX1 ∈ tblG := tin 30 (by decide +kernel) (by decide)
theorem df_X1 : ∀ j, j < 7 → defaultValue (tyX1 j) = (match kRt 1 j with | none => Value.int 0 | some _ => Value.null) := by
  intro j hj
  exact match j, hj with
  | 0, _ => rfl
  | 1, _ => rfl
  | 2, _ => rfl
  | 3, _ => rfl
  | 4, _ => rfl
  | 5, _ => rfl
  | 6, _ => rfl
  | k + 7, hj => absurd hj (by omega)
theorem mi_X1_init : MOi yX1_init cX1_init 1 0 := ⟨tin 69 (by decide +kernel) (by decide), nb_X1, tin 70 (by decide +kernel) (by decide), by decide +kernel, by decide +kernel, rfl⟩
theorem fb_X6_61 : FLok RX6 61 6 16 := ⟨RX6, TX6, 18, rfl, inG_X6, by decide, rfl, tin 216 (by decide +kernel) (by decide)⟩
theorem ff_X6_16 : FFok 6 16 (tyX6 16) := ⟨RX6, TX6, 18, tyX6, rfl, tyX6_ok, nmX6, rfl, rfl, fun _ => ⟨rfl, rfl⟩⟩
theorem fb_X6_65 : FLok RX6 65 6 17 := ⟨RX6, TX6, 18, rfl, inG_X6, by decide, rfl, tin 218 (by decide +kernel) (by decide)⟩
theorem ff_X6_17 : FFok 6 17 (tyX6 17) := ⟨RX6, TX6, 18, tyX6, rfl, tyX6_ok, nmX6, rfl, rfl, fun _ => ⟨rfl, rfl⟩⟩
theorem fb_X6_68 : FLok RX6 68 6 0 := ⟨RX6, TX6, 18, rfl, inG_X6, by decide, rfl, tin 184 (by decide +kernel) (by decide)⟩
theorem ff_X6_0 : FFok 6 0 (tyX6 0) := ⟨RX6, TX6, 18, tyX6, rfl, tyX6_ok, nmX6, rfl, rfl, fun _ => ⟨rfl, rfl⟩⟩
theorem mb_X8_3 : Cond.methodLink RX8 3 Lib.objectInit ∈ tblG := tin 65 (by decide +kernel) (by decide)
theorem fb_X8_9 : FLok RX8 9 8 0 := ⟨RX8, TX8, 10, rfl, inG_X8, by decide, rfl, tin 100 (by decide +kernel) (by decide)⟩
theorem gp_X8_0 : FPok 8 0 .int := ⟨RX8, TX8, 10, tyX8, rfl, tyX8_ok, nmX8, rfl, rfl⟩
theorem fb_X8_15 : FLok RX8 15 8 1 := ⟨RX8, TX8, 10, rfl, inG_X8, by decide, rfl, tin 105 (by decide +kernel) (by decide)⟩
theorem gp_X8_1 : FPok 8 1 .int := ⟨RX8, TX8, 10, tyX8, rfl, tyX8_ok, nmX8, rfl, rfl⟩
theorem fb_X8_18 : FLok RX8 18 8 2 := ⟨RX8, TX8, 10, rfl, inG_X8, by decide, rfl, tin 110 (by decide +kernel) (by decide)⟩
theorem ff_X8_2 : FFok 8 2 (tyX8 2) := ⟨RX8, TX8, 10, tyX8, rfl, tyX8_ok, nmX8, rfl, rfl, fun _ => ⟨rfl, rfl⟩⟩
theorem fb_X8_22 : FLok RX8 22 8 3 := ⟨RX8, TX8, 10, rfl, inG_X8, by decide, rfl, tin 114 (by decide +kernel) (by decide)⟩
theorem ff_X8_3 : FFok 8 3 (tyX8 3) := ⟨RX8, TX8, 10, tyX8, rfl, tyX8_ok, nmX8, rfl, rfl, fun _ => ⟨rfl, rfl⟩⟩
theorem fb_X8_25 : FLok RX8 25 8 4 := ⟨RX8, TX8, 10, rfl, inG_X8, by decide, rfl, tin 116 (by decide +kernel) (by decide)⟩
theorem ff_X8_4 : FFok 8 4 (tyX8 4) := ⟨RX8, TX8, 10, tyX8, rfl, tyX8_ok, nmX8, rfl, rfl, fun _ => ⟨rfl, rfl⟩⟩
theorem fb_X8_28 : FLok RX8 28 8 5 := ⟨RX8, TX8, 10, rfl, inG_X8, by decide, rfl, tin 118 (by decide +kernel) (by decide)⟩
theorem ff_X8_5 : FFok 8 5 (tyX8 5) := ⟨RX8, TX8, 10, tyX8, rfl, tyX8_ok, nmX8, rfl, rfl, fun _ => ⟨rfl, rfl⟩⟩
theorem fb_X8_31 : FLok RX8 31 8 6 := ⟨RX8, TX8, 10, rfl, inG_X8, by decide, rfl, tin 120 (by decide +kernel) (by decide)⟩
theorem ff_X8_6 : FFok 8 6 (tyX8 6) := ⟨RX8, TX8, 10, tyX8, rfl, tyX8_ok, nmX8, rfl, rfl, fun _ => ⟨rfl, rfl⟩⟩
theorem fb_X8_34 : FLok RX8 34 8 7 := ⟨RX8, TX8, 10, rfl, inG_X8, by decide, rfl, tin 121 (by decide +kernel) (by decide)⟩
theorem ff_X8_7 : FFok 8 7 (tyX8 7) := ⟨RX8, TX8, 10, tyX8, rfl, tyX8_ok, nmX8, rfl, rfl, fun _ => ⟨rfl, rfl⟩⟩
theorem fb_X8_37 : FLok RX8 37 8 8 := ⟨RX8, TX8, 10, rfl, inG_X8, by decide, rfl, tin 122 (by decide +kernel) (by decide)⟩
theorem ff_X8_8 : FFok 8 8 (tyX8 8) := ⟨RX8, TX8, 10, tyX8, rfl, tyX8_ok, nmX8, rfl, rfl, fun _ => ⟨rfl, rfl⟩⟩
theorem cb_X8_40 : Cond.classLink RX8 40 RX1 ∈ tblG := tin 66 (by decide +kernel) (by decide)
theorem fb_X8_43 : FLok RX8 43 8 9 := ⟨RX8, TX8, 10, rfl, inG_X8, by decide, rfl, tin 124 (by decide +kernel) (by decide)⟩
theorem ff_X8_9 : FFok 8 9 (tyX8 9) := ⟨RX8, TX8, 10, tyX8, rfl, tyX8_ok, nmX8, rfl, rfl, fun _ => ⟨rfl, rfl⟩⟩
theorem mb_X7_3 : Cond.methodLink RX7 3 Lib.objectInit ∈ tblG := tin 280 (by decide +kernel) (by decide)
theorem fb_X7_9 : FLok RX7 9 7 0 := ⟨RX7, TX7, 4, rfl, inG_X7, by decide, rfl, tin 281 (by decide +kernel) (by decide)⟩
theorem gp_X7_0 : FPok 7 0 .int := ⟨RX7, TX7, 4, tyX7, rfl, tyX7_ok, nmX7, rfl, rfl⟩
theorem fb_X7_15 : FLok RX7 15 7 1 := ⟨RX7, TX7, 4, rfl, inG_X7, by decide, rfl, tin 283 (by decide +kernel) (by decide)⟩
theorem ff_X7_1 : FFok 7 1 (tyX7 1) := ⟨RX7, TX7, 4, tyX7, rfl, tyX7_ok, nmX7, rfl, rfl, fun _ => ⟨rfl, rfl⟩⟩
theorem fb_X7_19 : FLok RX7 19 7 2 := ⟨RX7, TX7, 4, rfl, inG_X7, by decide, rfl, tin 284 (by decide +kernel) (by decide)⟩
theorem ff_X7_2 : FFok 7 2 (tyX7 2) := ⟨RX7, TX7, 4, tyX7, rfl, tyX7_ok, nmX7, rfl, rfl, fun _ => ⟨rfl, rfl⟩⟩
theorem fb_X7_22 : FLok RX7 22 7 3 := ⟨RX7, TX7, 4, rfl, inG_X7, by decide, rfl, tin 285 (by decide +kernel) (by decide)⟩
theorem ff_X7_3 : FFok 7 3 (tyX7 3) := ⟨RX7, TX7, 4, tyX7, rfl, tyX7_ok, nmX7, rfl, rfl, fun _ => ⟨rfl, rfl⟩⟩
theorem fb_X5_11 : FLok RX5 11 5 0 := ⟨RX5, TX5, 3, rfl, inG_X5, by decide, rfl, tin 265 (by decide +kernel) (by decide)⟩
theorem fb_X5_17 : FLok RX5 17 5 1 := ⟨RX5, TX5, 3, rfl, inG_X5, by decide, rfl, tin 266 (by decide +kernel) (by decide)⟩
theorem fb_X5_21 : FLok RX5 21 5 2 := ⟨RX5, TX5, 3, rfl, inG_X5, by decide, rfl, tin 267 (by decide +kernel) (by decide)⟩
theorem ff_X5_0 : FFok 5 0 (tyX5 0) := ⟨RX5, TX5, 3, tyX5, rfl, tyX5_ok, nmX5, rfl, rfl, fun _ => ⟨rfl, rfl⟩⟩
theorem gp_X5_1 : FPok 5 1 .int := ⟨RX5, TX5, 3, tyX5, rfl, tyX5_ok, nmX5, rfl, rfl⟩
theorem gp_X5_2 : FPok 5 2 .int := ⟨RX5, TX5, 3, tyX5, rfl, tyX5_ok, nmX5, rfl, rfl⟩
theorem mb_X5_3 : Cond.methodLink RX5 3 Lib.objectInit ∈ tblG := tin 261 (by decide +kernel) (by decide)
theorem cb_X5_9 : Cond.classLink RX5 9 RX6 ∈ tblG := tin 262 (by decide +kernel) (by decide)
theorem df_X6 : ∀ j, j < 18 → defaultValue (tyX6 j) = (match kRt 6 j with | none => Value.int 0 | some _ => Value.null) := by
  intro j hj
  exact match j, hj with
  | 0, _ => rfl
  | 1, _ => rfl
  | 2, _ => rfl
  | 3, _ => rfl
  | 4, _ => rfl
  | 5, _ => rfl
  | 6, _ => rfl
  | 7, _ => rfl
  | 8, _ => rfl
  | 9, _ => rfl
  | 10, _ => rfl
  | 11, _ => rfl
  | 12, _ => rfl
  | 13, _ => rfl
  | 14, _ => rfl
  | 15, _ => rfl
  | 16, _ => rfl
  | 17, _ => rfl
  | k + 18, hj => absurd hj (by omega)
theorem nb_X6 : Cond.initialized RX6 ∈ tblG := tin 32 (by decide +kernel) (by decide)
theorem mi_X6_init : MOi yX6_init cX6_init 2 1 := ⟨tin 179 (by decide +kernel) (by decide), nb_X6, tin 180 (by decide +kernel) (by decide), by decide +kernel, by decide +kernel, rfl⟩
theorem mb_X5_24 : Cond.methodLink RX5 24 yX6_init ∈ tblG := tin 264 (by decide +kernel) (by decide)
theorem ib_X6 : Cond.instantiable RX6 18 ∈ tblG := tin 177 (by decide +kernel) (by decide)
theorem df_X5 : ∀ j, j < 3 → defaultValue (tyX5 j) = (match kRt 5 j with | none => Value.int 0 | some _ => Value.null) := by
  intro j hj
  exact match j, hj with
  | 0, _ => rfl
  | 1, _ => rfl
  | 2, _ => rfl
  | k + 3, hj => absurd hj (by omega)
theorem mb_X9_3 : Cond.methodLink RX9 3 Lib.objectInit ∈ tblG := tin 153 (by decide +kernel) (by decide)
theorem fb_X9_9 : FLok RX9 9 9 2 := ⟨RX9, TX9, 7, rfl, inG_X9, by decide, rfl, tin 156 (by decide +kernel) (by decide)⟩
theorem gp_X9_2 : FPok 9 2 .int := ⟨RX9, TX9, 7, tyX9, rfl, tyX9_ok, nmX9, rfl, rfl⟩
theorem fb_X9_15 : FLok RX9 15 9 3 := ⟨RX9, TX9, 7, rfl, inG_X9, by decide, rfl, tin 157 (by decide +kernel) (by decide)⟩
theorem gp_X9_3 : FPok 9 3 .int := ⟨RX9, TX9, 7, tyX9, rfl, tyX9_ok, nmX9, rfl, rfl⟩
theorem fb_X9_18 : FLok RX9 18 9 4 := ⟨RX9, TX9, 7, rfl, inG_X9, by decide, rfl, tin 158 (by decide +kernel) (by decide)⟩
theorem gp_X9_4 : FPok 9 4 .int := ⟨RX9, TX9, 7, tyX9, rfl, tyX9_ok, nmX9, rfl, rfl⟩
theorem fb_X9_21 : FLok RX9 21 9 5 := ⟨RX9, TX9, 7, rfl, inG_X9, by decide, rfl, tin 159 (by decide +kernel) (by decide)⟩
theorem gp_X9_5 : FPok 9 5 .int := ⟨RX9, TX9, 7, tyX9, rfl, tyX9_ok, nmX9, rfl, rfl⟩
theorem fb_X9_24 : FLok RX9 24 9 6 := ⟨RX9, TX9, 7, rfl, inG_X9, by decide, rfl, tin 160 (by decide +kernel) (by decide)⟩
theorem gp_X9_6 : FPok 9 6 .int := ⟨RX9, TX9, 7, tyX9, rfl, tyX9_ok, nmX9, rfl, rfl⟩
theorem fb_X9_27 : FLok RX9 27 9 0 := ⟨RX9, TX9, 7, rfl, inG_X9, by decide, rfl, tin 154 (by decide +kernel) (by decide)⟩
theorem ff_X9_0 : FFok 9 0 (tyX9 0) := ⟨RX9, TX9, 7, tyX9, rfl, tyX9_ok, nmX9, rfl, rfl, fun _ => ⟨rfl, rfl⟩⟩
theorem fb_X9_31 : FLok RX9 31 9 1 := ⟨RX9, TX9, 7, rfl, inG_X9, by decide, rfl, tin 155 (by decide +kernel) (by decide)⟩
theorem ff_X9_1 : FFok 9 1 (tyX9 1) := ⟨RX9, TX9, 7, tyX9, rfl, tyX9_ok, nmX9, rfl, rfl, fun _ => ⟨rfl, rfl⟩⟩
theorem mb_X3_3 : Cond.methodLink RX3 3 Lib.objectInit ∈ tblG := tin 300 (by decide +kernel) (by decide)
theorem fb_X3_9 : FLok RX3 9 3 2 := ⟨RX3, TX3, 4, rfl, inG_X3, by decide, rfl, tin 303 (by decide +kernel) (by decide)⟩
theorem gp_X3_2 : FPok 3 2 .int := ⟨RX3, TX3, 4, tyX3, rfl, tyX3_ok, nmX3, rfl, rfl⟩
theorem fb_X3_15 : FLok RX3 15 3 3 := ⟨RX3, TX3, 4, rfl, inG_X3, by decide, rfl, tin 304 (by decide +kernel) (by decide)⟩
theorem gp_X3_3 : FPok 3 3 .int := ⟨RX3, TX3, 4, tyX3, rfl, tyX3_ok, nmX3, rfl, rfl⟩
theorem fb_X3_18 : FLok RX3 18 3 0 := ⟨RX3, TX3, 4, rfl, inG_X3, by decide, rfl, tin 301 (by decide +kernel) (by decide)⟩
theorem ff_X3_0 : FFok 3 0 (tyX3 0) := ⟨RX3, TX3, 4, tyX3, rfl, tyX3_ok, nmX3, rfl, rfl, fun _ => ⟨rfl, rfl⟩⟩
theorem fb_X3_22 : FLok RX3 22 3 1 := ⟨RX3, TX3, 4, rfl, inG_X3, by decide, rfl, tin 302 (by decide +kernel) (by decide)⟩
theorem ff_X3_1 : FFok 3 1 (tyX3 1) := ⟨RX3, TX3, 4, tyX3, rfl, tyX3_ok, nmX3, rfl, rfl, fun _ => ⟨rfl, rfl⟩⟩
theorem mb_X2_3 : Cond.methodLink RX2 3 Lib.objectInit ∈ tblG := tin 319 (by decide +kernel) (by decide)
theorem fb_X2_11 : FLok RX2 11 2 3 := ⟨RX2, TX2, 4, rfl, inG_X2, by decide, rfl, tin 323 (by decide +kernel) (by decide)⟩
theorem ff_X2_3 : FFok 2 3 (tyX2 3) := ⟨RX2, TX2, 4, tyX2, rfl, tyX2_ok, nmX2, rfl, rfl, fun _ => ⟨rfl, rfl⟩⟩
theorem fb_X2_15 : FLok RX2 15 2 0 := ⟨RX2, TX2, 4, rfl, inG_X2, by decide, rfl, tin 320 (by decide +kernel) (by decide)⟩
theorem ff_X2_0 : FFok 2 0 (tyX2 0) := ⟨RX2, TX2, 4, tyX2, rfl, tyX2_ok, nmX2, rfl, rfl, fun _ => ⟨rfl, rfl⟩⟩
theorem fb_X2_19 : FLok RX2 19 2 1 := ⟨RX2, TX2, 4, rfl, inG_X2, by decide, rfl, tin 321 (by decide +kernel) (by decide)⟩
theorem ff_X2_1 : FFok 2 1 (tyX2 1) := ⟨RX2, TX2, 4, tyX2, rfl, tyX2_ok, nmX2, rfl, rfl, fun _ => ⟨rfl, rfl⟩⟩
theorem fb_X2_23 : FLok RX2 23 2 2 := ⟨RX2, TX2, 4, rfl, inG_X2, by decide, rfl, tin 322 (by decide +kernel) (by decide)⟩
theorem ff_X2_2 : FFok 2 2 (tyX2 2) := ⟨RX2, TX2, 4, tyX2, rfl, tyX2_ok, nmX2, rfl, rfl, fun _ => ⟨rfl, rfl⟩⟩
theorem mb_X4_3 : Cond.methodLink RX4 3 Lib.objectInit ∈ tblG := tin 338 (by decide +kernel) (by decide)
theorem fb_X4_9 : FLok RX4 9 4 4 := ⟨RX4, TX4, 8, rfl, inG_X4, by decide, rfl, tin 343 (by decide +kernel) (by decide)⟩
theorem gp_X4_4 : FPok 4 4 .int := ⟨RX4, TX4, 8, tyX4, rfl, tyX4_ok, nmX4, rfl, rfl⟩
theorem fb_X4_15 : FLok RX4 15 4 5 := ⟨RX4, TX4, 8, rfl, inG_X4, by decide, rfl, tin 344 (by decide +kernel) (by decide)⟩
theorem gp_X4_5 : FPok 4 5 .int := ⟨RX4, TX4, 8, tyX4, rfl, tyX4_ok, nmX4, rfl, rfl⟩
theorem fb_X4_18 : FLok RX4 18 4 6 := ⟨RX4, TX4, 8, rfl, inG_X4, by decide, rfl, tin 345 (by decide +kernel) (by decide)⟩
theorem ff_X4_6 : FFok 4 6 (tyX4 6) := ⟨RX4, TX4, 8, tyX4, rfl, tyX4_ok, nmX4, rfl, rfl, fun _ => ⟨rfl, rfl⟩⟩
theorem fb_X4_22 : FLok RX4 22 4 7 := ⟨RX4, TX4, 8, rfl, inG_X4, by decide, rfl, tin 346 (by decide +kernel) (by decide)⟩
theorem ff_X4_7 : FFok 4 7 (tyX4 7) := ⟨RX4, TX4, 8, tyX4, rfl, tyX4_ok, nmX4, rfl, rfl, fun _ => ⟨rfl, rfl⟩⟩
theorem fb_X4_25 : FLok RX4 25 4 0 := ⟨RX4, TX4, 8, rfl, inG_X4, by decide, rfl, tin 339 (by decide +kernel) (by decide)⟩
theorem ff_X4_0 : FFok 4 0 (tyX4 0) := ⟨RX4, TX4, 8, tyX4, rfl, tyX4_ok, nmX4, rfl, rfl, fun _ => ⟨rfl, rfl⟩⟩
theorem fb_X4_29 : FLok RX4 29 4 1 := ⟨RX4, TX4, 8, rfl, inG_X4, by decide, rfl, tin 340 (by decide +kernel) (by decide)⟩
theorem ff_X4_1 : FFok 4 1 (tyX4 1) := ⟨RX4, TX4, 8, tyX4, rfl, tyX4_ok, nmX4, rfl, rfl, fun _ => ⟨rfl, rfl⟩⟩
theorem fb_X4_33 : FLok RX4 33 4 2 := ⟨RX4, TX4, 8, rfl, inG_X4, by decide, rfl, tin 341 (by decide +kernel) (by decide)⟩
theorem ff_X4_2 : FFok 4 2 (tyX4 2) := ⟨RX4, TX4, 8, tyX4, rfl, tyX4_ok, nmX4, rfl, rfl, fun _ => ⟨rfl, rfl⟩⟩
theorem fb_X4_36 : FLok RX4 36 4 3 := ⟨RX4, TX4, 8, rfl, inG_X4, by decide, rfl, tin 342 (by decide +kernel) (by decide)⟩
theorem ff_X4_3 : FFok 4 3 (tyX4 3) := ⟨RX4, TX4, 8, tyX4, rfl, tyX4_ok, nmX4, rfl, rfl, fun _ => ⟨rfl, rfl⟩⟩
theorem mb_X0_3 : Cond.methodLink RX0 3 Lib.objectInit ∈ tblG := tin 369 (by decide +kernel) (by decide)
theorem fb_X0_9 : FLok RX0 9 0 3 := ⟨RX0, TX0, 4, rfl, inG_X0, by decide, rfl, tin 373 (by decide +kernel) (by decide)⟩
theorem gp_X0_3 : FPok 0 3 .int := ⟨RX0, TX0, 4, tyX0, rfl, tyX0_ok, nmX0, rfl, rfl⟩
theorem fb_X0_15 : FLok RX0 15 0 0 := ⟨RX0, TX0, 4, rfl, inG_X0, by decide, rfl, tin 370 (by decide +kernel) (by decide)⟩
theorem ff_X0_0 : FFok 0 0 (tyX0 0) := ⟨RX0, TX0, 4, tyX0, rfl, tyX0_ok, nmX0, rfl, rfl, fun _ => ⟨rfl, rfl⟩⟩
theorem fb_X0_19 : FLok RX0 19 0 1 := ⟨RX0, TX0, 4, rfl, inG_X0, by decide, rfl, tin 371 (by decide +kernel) (by decide)⟩
theorem ff_X0_1 : FFok 0 1 (tyX0 1) := ⟨RX0, TX0, 4, tyX0, rfl, tyX0_ok, nmX0, rfl, rfl, fun _ => ⟨rfl, rfl⟩⟩
theorem fb_X0_23 : FLok RX0 23 0 2 := ⟨RX0, TX0, 4, rfl, inG_X0, by decide, rfl, tin 372 (by decide +kernel) (by decide)⟩
theorem ff_X0_2 : FFok 0 2 (tyX0 2) := ⟨RX0, TX0, 4, tyX0, rfl, tyX0_ok, nmX0, rfl, rfl, fun _ => ⟨rfl, rfl⟩⟩
theorem mb_X10_3 : Cond.methodLink RX10 3 Lib.objectInit ∈ tblG := tin 388 (by decide +kernel) (by decide)
theorem fb_X10_11 : FLok RX10 11 10 0 := ⟨RX10, TX10, 2, rfl, inG_X10, by decide, rfl, tin 389 (by decide +kernel) (by decide)⟩
theorem ff_X10_0 : FFok 10 0 (tyX10 0) := ⟨RX10, TX10, 2, tyX10, rfl, tyX10_ok, nmX10, rfl, rfl, fun _ => ⟨rfl, rfl⟩⟩
theorem fb_X10_15 : FLok RX10 15 10 1 := ⟨RX10, TX10, 2, rfl, inG_X10, by decide, rfl, tin 391 (by decide +kernel) (by decide)⟩
theorem gp_X10_1 : FPok 10 1 .int := ⟨RX10, TX10, 2, tyX10, rfl, tyX10_ok, nmX10, rfl, rfl⟩
theorem mb_X11_3 : Cond.methodLink RX11 3 Lib.objectInit ∈ tblG := tin 57 (by decide +kernel) (by decide)
theorem fb_X11_9 : FLok RX11 9 11 0 := ⟨RX11, TX11, 21, rfl, inG_X11, by decide, rfl, tin 398 (by decide +kernel) (by decide)⟩
theorem ff_X11_0 : FFok 11 0 (tyX11 0) := ⟨RX11, TX11, 21, tyX11, rfl, tyX11_ok, nmX11, rfl, rfl, fun _ => ⟨rfl, rfl⟩⟩
theorem fb_X11_13 : FLok RX11 13 11 1 := ⟨RX11, TX11, 21, rfl, inG_X11, by decide, rfl, tin 399 (by decide +kernel) (by decide)⟩
theorem gp_X11_1 : FPok 11 1 .int := ⟨RX11, TX11, 21, tyX11, rfl, tyX11_ok, nmX11, rfl, rfl⟩
theorem fb_X11_17 : FLok RX11 17 11 2 := ⟨RX11, TX11, 21, rfl, inG_X11, by decide, rfl, tin 400 (by decide +kernel) (by decide)⟩
theorem gp_X11_2 : FPok 11 2 .int := ⟨RX11, TX11, 21, tyX11, rfl, tyX11_ok, nmX11, rfl, rfl⟩
theorem fb_X11_20 : FLok RX11 20 11 3 := ⟨RX11, TX11, 21, rfl, inG_X11, by decide, rfl, tin 401 (by decide +kernel) (by decide)⟩
theorem ff_X11_3 : FFok 11 3 (tyX11 3) := ⟨RX11, TX11, 21, tyX11, rfl, tyX11_ok, nmX11, rfl, rfl, fun _ => ⟨rfl, rfl⟩⟩
theorem cb_X11_23 : Cond.classLink RX11 23 RX8 ∈ tblG := tin 60 (by decide +kernel) (by decide)
theorem ib_X8 : Cond.instantiable RX8 10 ∈ tblG := tin 61 (by decide +kernel) (by decide)
theorem nb_X8 : Cond.initialized RX8 ∈ tblG := tin 29 (by decide +kernel) (by decide)
theorem df_X8 : ∀ j, j < 10 → defaultValue (tyX8 j) = (match kRt 8 j with | none => Value.int 0 | some _ => Value.null) := by
  intro j hj
  exact match j, hj with
  | 0, _ => rfl
  | 1, _ => rfl
  | 2, _ => rfl
  | 3, _ => rfl
  | 4, _ => rfl
  | 5, _ => rfl
  | 6, _ => rfl
  | 7, _ => rfl
  | 8, _ => rfl
  | 9, _ => rfl
  | k + 10, hj => absurd hj (by omega)
theorem mi_X8_init : MOi yX8_init cX8_init 1 0 := ⟨tin 63 (by decide +kernel) (by decide), nb_X8, tin 64 (by decide +kernel) (by decide), by decide +kernel, by decide +kernel, rfl⟩
theorem fb_X11_26 : FLok RX11 26 11 4 := ⟨RX11, TX11, 21, rfl, inG_X11, by decide, rfl, tin 402 (by decide +kernel) (by decide)⟩
theorem ff_X11_4 : FFok 11 4 (tyX11 4) := ⟨RX11, TX11, 21, tyX11, rfl, tyX11_ok, nmX11, rfl, rfl, fun _ => ⟨rfl, rfl⟩⟩
theorem fb_X11_30 : FLok RX11 30 11 5 := ⟨RX11, TX11, 21, rfl, inG_X11, by decide, rfl, tin 403 (by decide +kernel) (by decide)⟩
theorem ff_X11_5 : FFok 11 5 (tyX11 5) := ⟨RX11, TX11, 21, tyX11, rfl, tyX11_ok, nmX11, rfl, rfl, fun _ => ⟨rfl, rfl⟩⟩
theorem cb_X11_33 : Cond.classLink RX11 33 RX9 ∈ tblG := tin 148 (by decide +kernel) (by decide)
theorem ib_X9 : Cond.instantiable RX9 7 ∈ tblG := tin 149 (by decide +kernel) (by decide)
theorem nb_X9 : Cond.initialized RX9 ∈ tblG := tin 31 (by decide +kernel) (by decide)
theorem df_X9 : ∀ j, j < 7 → defaultValue (tyX9 j) = (match kRt 9 j with | none => Value.int 0 | some _ => Value.null) := by
  intro j hj
  exact match j, hj with
  | 0, _ => rfl
  | 1, _ => rfl
  | 2, _ => rfl
  | 3, _ => rfl
  | 4, _ => rfl
  | 5, _ => rfl
  | 6, _ => rfl
  | k + 7, hj => absurd hj (by omega)
theorem mi_X9_init : MOi yX9_init cX9_init 3 2 := ⟨tin 151 (by decide +kernel) (by decide), nb_X9, tin 152 (by decide +kernel) (by decide), by decide +kernel, by decide +kernel, rfl⟩
theorem mb_X11_35 : Cond.methodLink RX11 35 yX9_init ∈ tblG := tin 150 (by decide +kernel) (by decide)
theorem fb_X11_38 : FLok RX11 38 11 6 := ⟨RX11, TX11, 21, rfl, inG_X11, by decide, rfl, tin 404 (by decide +kernel) (by decide)⟩
theorem ff_X11_6 : FFok 11 6 (tyX11 6) := ⟨RX11, TX11, 21, tyX11, rfl, tyX11_ok, nmX11, rfl, rfl, fun _ => ⟨rfl, rfl⟩⟩
theorem cb_X11_42 : Cond.classLink RX11 42 RX6 ∈ tblG := tin 176 (by decide +kernel) (by decide)
theorem mb_X11_44 : Cond.methodLink RX11 44 yX6_init ∈ tblG := tin 178 (by decide +kernel) (by decide)
theorem fb_X11_47 : FLok RX11 47 11 7 := ⟨RX11, TX11, 21, rfl, inG_X11, by decide, rfl, tin 405 (by decide +kernel) (by decide)⟩
theorem ff_X11_7 : FFok 11 7 (tyX11 7) := ⟨RX11, TX11, 21, tyX11, rfl, tyX11_ok, nmX11, rfl, rfl, fun _ => ⟨rfl, rfl⟩⟩
theorem cb_X11_51 : Cond.classLink RX11 51 RX5 ∈ tblG := tin 256 (by decide +kernel) (by decide)
theorem ib_X5 : Cond.instantiable RX5 3 ∈ tblG := tin 257 (by decide +kernel) (by decide)
theorem nb_X5 : Cond.initialized RX5 ∈ tblG := tin 33 (by decide +kernel) (by decide)
theorem mi_X5_init : MOi yX5_init cX5_init 3 1 := ⟨tin 259 (by decide +kernel) (by decide), nb_X5, tin 260 (by decide +kernel) (by decide), by decide +kernel, by decide +kernel, rfl⟩
theorem mb_X11_53 : Cond.methodLink RX11 53 yX5_init ∈ tblG := tin 258 (by decide +kernel) (by decide)
theorem fb_X11_54 : FLok RX11 54 11 8 := ⟨RX11, TX11, 21, rfl, inG_X11, by decide, rfl, tin 406 (by decide +kernel) (by decide)⟩
theorem ff_X11_8 : FFok 11 8 (tyX11 8) := ⟨RX11, TX11, 21, tyX11, rfl, tyX11_ok, nmX11, rfl, rfl, fun _ => ⟨rfl, rfl⟩⟩
theorem cb_X11_58 : Cond.classLink RX11 58 RX7 ∈ tblG := tin 275 (by decide +kernel) (by decide)
theorem ib_X7 : Cond.instantiable RX7 4 ∈ tblG := tin 276 (by decide +kernel) (by decide)
theorem nb_X7 : Cond.initialized RX7 ∈ tblG := tin 34 (by decide +kernel) (by decide)
theorem df_X7 : ∀ j, j < 4 → defaultValue (tyX7 j) = (match kRt 7 j with | none => Value.int 0 | some _ => Value.null) := by
  intro j hj
  exact match j, hj with
  | 0, _ => rfl
  | 1, _ => rfl
  | 2, _ => rfl
  | 3, _ => rfl
  | k + 4, hj => absurd hj (by omega)
theorem mi_X7_init : MOi yX7_init cX7_init 1 0 := ⟨tin 278 (by decide +kernel) (by decide), nb_X7, tin 279 (by decide +kernel) (by decide), by decide +kernel, by decide +kernel, rfl⟩
theorem fb_X11_61 : FLok RX11 61 11 9 := ⟨RX11, TX11, 21, rfl, inG_X11, by decide, rfl, tin 407 (by decide +kernel) (by decide)⟩
theorem ff_X11_9 : FFok 11 9 (tyX11 9) := ⟨RX11, TX11, 21, tyX11, rfl, tyX11_ok, nmX11, rfl, rfl, fun _ => ⟨rfl, rfl⟩⟩
theorem fb_X11_65 : FLok RX11 65 11 10 := ⟨RX11, TX11, 21, rfl, inG_X11, by decide, rfl, tin 408 (by decide +kernel) (by decide)⟩
theorem gp_X11_10 : FPok 11 10 .boolean := ⟨RX11, TX11, 21, tyX11, rfl, tyX11_ok, nmX11, rfl, rfl⟩
theorem fb_X11_69 : FLok RX11 69 11 11 := ⟨RX11, TX11, 21, rfl, inG_X11, by decide, rfl, tin 409 (by decide +kernel) (by decide)⟩
theorem ff_X11_11 : FFok 11 11 (tyX11 11) := ⟨RX11, TX11, 21, tyX11, rfl, tyX11_ok, nmX11, rfl, rfl, fun _ => ⟨rfl, rfl⟩⟩
theorem fb_X11_72 : FLok RX11 72 11 12 := ⟨RX11, TX11, 21, rfl, inG_X11, by decide, rfl, tin 410 (by decide +kernel) (by decide)⟩
theorem ff_X11_12 : FFok 11 12 (tyX11 12) := ⟨RX11, TX11, 21, tyX11, rfl, tyX11_ok, nmX11, rfl, rfl, fun _ => ⟨rfl, rfl⟩⟩
theorem fb_X11_75 : FLok RX11 75 11 13 := ⟨RX11, TX11, 21, rfl, inG_X11, by decide, rfl, tin 411 (by decide +kernel) (by decide)⟩
theorem ff_X11_13 : FFok 11 13 (tyX11 13) := ⟨RX11, TX11, 21, tyX11, rfl, tyX11_ok, nmX11, rfl, rfl, fun _ => ⟨rfl, rfl⟩⟩
theorem fb_X11_78 : FLok RX11 78 11 14 := ⟨RX11, TX11, 21, rfl, inG_X11, by decide, rfl, tin 412 (by decide +kernel) (by decide)⟩
theorem ff_X11_14 : FFok 11 14 (tyX11 14) := ⟨RX11, TX11, 21, tyX11, rfl, tyX11_ok, nmX11, rfl, rfl, fun _ => ⟨rfl, rfl⟩⟩
theorem fb_X11_81 : FLok RX11 81 11 15 := ⟨RX11, TX11, 21, rfl, inG_X11, by decide, rfl, tin 413 (by decide +kernel) (by decide)⟩
theorem ff_X11_15 : FFok 11 15 (tyX11 15) := ⟨RX11, TX11, 21, tyX11, rfl, tyX11_ok, nmX11, rfl, rfl, fun _ => ⟨rfl, rfl⟩⟩
theorem cb_X11_84 : Cond.classLink RX11 84 RX3 ∈ tblG := tin 295 (by decide +kernel) (by decide)
theorem ib_X3 : Cond.instantiable RX3 4 ∈ tblG := tin 296 (by decide +kernel) (by decide)
theorem nb_X3 : Cond.initialized RX3 ∈ tblG := tin 35 (by decide +kernel) (by decide)
theorem df_X3 : ∀ j, j < 4 → defaultValue (tyX3 j) = (match kRt 3 j with | none => Value.int 0 | some _ => Value.null) := by
  intro j hj
  exact match j, hj with
  | 0, _ => rfl
  | 1, _ => rfl
  | 2, _ => rfl
  | 3, _ => rfl
  | k + 4, hj => absurd hj (by omega)
theorem mi_X3_init : MOi yX3_init cX3_init 3 2 := ⟨tin 298 (by decide +kernel) (by decide), nb_X3, tin 299 (by decide +kernel) (by decide), by decide +kernel, by decide +kernel, rfl⟩
theorem mb_X11_86 : Cond.methodLink RX11 86 yX3_init ∈ tblG := tin 297 (by decide +kernel) (by decide)
theorem fb_X11_89 : FLok RX11 89 11 16 := ⟨RX11, TX11, 21, rfl, inG_X11, by decide, rfl, tin 414 (by decide +kernel) (by decide)⟩
theorem ff_X11_16 : FFok 11 16 (tyX11 16) := ⟨RX11, TX11, 21, tyX11, rfl, tyX11_ok, nmX11, rfl, rfl, fun _ => ⟨rfl, rfl⟩⟩
theorem cb_X11_93 : Cond.classLink RX11 93 RX2 ∈ tblG := tin 314 (by decide +kernel) (by decide)
theorem ib_X2 : Cond.instantiable RX2 4 ∈ tblG := tin 315 (by decide +kernel) (by decide)
theorem nb_X2 : Cond.initialized RX2 ∈ tblG := tin 36 (by decide +kernel) (by decide)
theorem df_X2 : ∀ j, j < 4 → defaultValue (tyX2 j) = (match kRt 2 j with | none => Value.int 0 | some _ => Value.null) := by
  intro j hj
  exact match j, hj with
  | 0, _ => rfl
  | 1, _ => rfl
  | 2, _ => rfl
  | 3, _ => rfl
  | k + 4, hj => absurd hj (by omega)
theorem mi_X2_init : MOi yX2_init cX2_init 4 3 := ⟨tin 317 (by decide +kernel) (by decide), nb_X2, tin 318 (by decide +kernel) (by decide), by decide +kernel, by decide +kernel, rfl⟩
theorem mb_X11_95 : Cond.methodLink RX11 95 yX2_init ∈ tblG := tin 316 (by decide +kernel) (by decide)
theorem fb_X11_98 : FLok RX11 98 11 17 := ⟨RX11, TX11, 21, rfl, inG_X11, by decide, rfl, tin 415 (by decide +kernel) (by decide)⟩
theorem ff_X11_17 : FFok 11 17 (tyX11 17) := ⟨RX11, TX11, 21, tyX11, rfl, tyX11_ok, nmX11, rfl, rfl, fun _ => ⟨rfl, rfl⟩⟩
theorem cb_X11_102 : Cond.classLink RX11 102 RX4 ∈ tblG := tin 333 (by decide +kernel) (by decide)
theorem ib_X4 : Cond.instantiable RX4 8 ∈ tblG := tin 334 (by decide +kernel) (by decide)
theorem nb_X4 : Cond.initialized RX4 ∈ tblG := tin 37 (by decide +kernel) (by decide)
theorem df_X4 : ∀ j, j < 8 → defaultValue (tyX4 j) = (match kRt 4 j with | none => Value.int 0 | some _ => Value.null) := by
  intro j hj
  exact match j, hj with
  | 0, _ => rfl
  | 1, _ => rfl
  | 2, _ => rfl
  | 3, _ => rfl
  | 4, _ => rfl
  | 5, _ => rfl
  | 6, _ => rfl
  | 7, _ => rfl
  | k + 8, hj => absurd hj (by omega)
theorem mi_X4_init : MOi yX4_init cX4_init 5 4 := ⟨tin 336 (by decide +kernel) (by decide), nb_X4, tin 337 (by decide +kernel) (by decide), by decide +kernel, by decide +kernel, rfl⟩
theorem mb_X11_104 : Cond.methodLink RX11 104 yX4_init ∈ tblG := tin 335 (by decide +kernel) (by decide)
theorem fb_X11_107 : FLok RX11 107 11 18 := ⟨RX11, TX11, 21, rfl, inG_X11, by decide, rfl, tin 416 (by decide +kernel) (by decide)⟩
theorem ff_X11_18 : FFok 11 18 (tyX11 18) := ⟨RX11, TX11, 21, tyX11, rfl, tyX11_ok, nmX11, rfl, rfl, fun _ => ⟨rfl, rfl⟩⟩
theorem cb_X11_111 : Cond.classLink RX11 111 RX0 ∈ tblG := tin 364 (by decide +kernel) (by decide)
theorem ib_X0 : Cond.instantiable RX0 4 ∈ tblG := tin 365 (by decide +kernel) (by decide)
theorem nb_X0 : Cond.initialized RX0 ∈ tblG := tin 38 (by decide +kernel) (by decide)
theorem df_X0 : ∀ j, j < 4 → defaultValue (tyX0 j) = (match kRt 0 j with | none => Value.int 0 | some _ => Value.null) := by
  intro j hj
  exact match j, hj with
  | 0, _ => rfl
  | 1, _ => rfl
  | 2, _ => rfl
  | 3, _ => rfl
  | k + 4, hj => absurd hj (by omega)
theorem mi_X0_init : MOi yX0_init cX0_init 4 3 := ⟨tin 367 (by decide +kernel) (by decide), nb_X0, tin 368 (by decide +kernel) (by decide), by decide +kernel, by decide +kernel, rfl⟩
theorem mb_X11_113 : Cond.methodLink RX11 113 yX0_init ∈ tblG := tin 366 (by decide +kernel) (by decide)
theorem fb_X11_114 : FLok RX11 114 11 19 := ⟨RX11, TX11, 21, rfl, inG_X11, by decide, rfl, tin 417 (by decide +kernel) (by decide)⟩
theorem ff_X11_19 : FFok 11 19 (tyX11 19) := ⟨RX11, TX11, 21, tyX11, rfl, tyX11_ok, nmX11, rfl, rfl, fun _ => ⟨rfl, rfl⟩⟩
theorem cb_X11_118 : Cond.classLink RX11 118 RX10 ∈ tblG := tin 383 (by decide +kernel) (by decide)
theorem ib_X10 : Cond.instantiable RX10 2 ∈ tblG := tin 384 (by decide +kernel) (by decide)
theorem nb_X10 : Cond.initialized RX10 ∈ tblG := tin 39 (by decide +kernel) (by decide)
theorem df_X10 : ∀ j, j < 2 → defaultValue (tyX10 j) = (match kRt 10 j with | none => Value.int 0 | some _ => Value.null) := by
  intro j hj
  exact match j, hj with
  | 0, _ => rfl
  | 1, _ => rfl
  | k + 2, hj => absurd hj (by omega)
theorem mi_X10_init : MOi yX10_init cX10_init 1 0 := ⟨tin 386 (by decide +kernel) (by decide), nb_X10, tin 387 (by decide +kernel) (by decide), by decide +kernel, by decide +kernel, rfl⟩
theorem fb_X11_121 : FLok RX11 121 11 20 := ⟨RX11, TX11, 21, rfl, inG_X11, by decide, rfl, tin 418 (by decide +kernel) (by decide)⟩
theorem ff_X11_20 : FFok 11 20 (tyX11 20) := ⟨RX11, TX11, 21, tyX11, rfl, tyX11_ok, nmX11, rfl, rfl, fun _ => ⟨rfl, rfl⟩⟩
theorem cbX1 (l : Launch) (G : GG) (a : Nat) (i : Int) (hL : CurvAt a i) (hM : a + 8 ≤ nCell) (o : Nat → Nat → Bool) (h : HP) (hfl : G.2.2.1 399 = 1 := by assumption) : CB l G yX1_init cX1_init 1 1 7 2484 [(11, i)] (a + 1, (oset o a (fun _ => false), h)) (a + 8, (oset o a oT, h)) := by
  refine CB.of (lo := [(11, i)]) (by decide) rfl rfl rfl rfl ?_
  intro p e s m args below meth c hc hr hin hx
  have hc : VC G p (rmB 1 7 2484) s m args meth c RX1 cX1_init 1 1 := hc
  refine VB.aload_n (t := 1) hc dX1_init_0 rfl rfl ?_
  refine VB.obj hc mb_X1_3 ob2 ob3 rfl rfl dX1_init_1 ?_
  refine VB.aload_n (t := 1) hc dX1_init_4 rfl rfl ?_
  refine VB.bipush hc dX1_init_5 rfl ?_
  refine VB.newaI (k := 13) (i := i) (N := 36) hc abI rfl rfl rfl rfl (hL 1 13 (by decide)) ⟨Nat.le_of_ble_eq_true rfl, Nat.le_of_ble_eq_true rfl⟩ dX1_init_7 ?_
  refine VB.putR (k := 1) (i := i) (r := (13, none)) hc hin fb_X1_11 rfl ff_X1_0 rfl rfl rfl rfl rfl rfl (hL 0 1 (by decide)) (by omega) dX1_init_9 ?_
  refine VB.aload_n (t := 1) hc dX1_init_12 rfl rfl ?_
  refine VB.bipush hc dX1_init_13 rfl ?_
  refine VB.newaI (k := 14) (i := i) (N := 36) hc abI rfl rfl rfl rfl (hL 2 14 (by decide)) ⟨Nat.le_of_ble_eq_true rfl, Nat.le_of_ble_eq_true rfl⟩ dX1_init_15 ?_
  refine VB.putR (k := 1) (i := i) (r := (14, none)) hc hin fb_X1_15 rfl ff_X1_1 rfl rfl rfl rfl rfl rfl (hL 0 1 (by decide)) (by omega) dX1_init_17 ?_
  refine VB.aload_n (t := 1) hc dX1_init_20 rfl rfl ?_
  refine VB.bipush hc dX1_init_21 rfl ?_
  refine VB.newaI (k := 15) (i := i) (N := 36) hc abI rfl rfl rfl rfl (hL 3 15 (by decide)) ⟨Nat.le_of_ble_eq_true rfl, Nat.le_of_ble_eq_true rfl⟩ dX1_init_23 ?_
  refine VB.putR (k := 1) (i := i) (r := (15, none)) hc hin fb_X1_18 rfl ff_X1_2 rfl rfl rfl rfl rfl rfl (hL 0 1 (by decide)) (by omega) dX1_init_25 ?_
  refine VB.aload_n (t := 1) hc dX1_init_28 rfl rfl ?_
  refine VB.bipush hc dX1_init_29 rfl ?_
  refine VB.newaI (k := 16) (i := i) (N := 36) hc abI rfl rfl rfl rfl (hL 4 16 (by decide)) ⟨Nat.le_of_ble_eq_true rfl, Nat.le_of_ble_eq_true rfl⟩ dX1_init_31 ?_
  refine VB.putR (k := 1) (i := i) (r := (16, none)) hc hin fb_X1_21 rfl ff_X1_3 rfl rfl rfl rfl rfl rfl (hL 0 1 (by decide)) (by omega) dX1_init_33 ?_
  refine VB.aload_n (t := 1) hc dX1_init_36 rfl rfl ?_
  refine VB.bipush hc dX1_init_37 rfl ?_
  refine VB.newaI (k := 17) (i := i) (N := 36) hc abI rfl rfl rfl rfl (hL 5 17 (by decide)) ⟨Nat.le_of_ble_eq_true rfl, Nat.le_of_ble_eq_true rfl⟩ dX1_init_39 ?_
  refine VB.putR (k := 1) (i := i) (r := (17, none)) hc hin fb_X1_24 rfl ff_X1_4 rfl rfl rfl rfl rfl rfl (hL 0 1 (by decide)) (by omega) dX1_init_41 ?_
  refine VB.aload_n (t := 1) hc dX1_init_44 rfl rfl ?_
  refine VB.sipush hc dX1_init_45 rfl ?_
  refine VB.newaI (k := 18) (i := i) (N := 1152) hc abI rfl rfl rfl rfl (hL 6 18 (by decide)) ⟨Nat.le_of_ble_eq_true rfl, Nat.le_of_ble_eq_true rfl⟩ dX1_init_48 ?_
  refine VB.putR (k := 1) (i := i) (r := (18, none)) hc hin fb_X1_27 rfl ff_X1_5 rfl rfl rfl rfl rfl rfl (hL 0 1 (by decide)) (by omega) dX1_init_50 ?_
  refine VB.aload_n (t := 1) hc dX1_init_53 rfl rfl ?_
  refine VB.sipush hc dX1_init_54 rfl ?_
  refine VB.newaI (k := 19) (i := i) (N := 1152) hc abI rfl rfl rfl rfl (hL 7 19 (by decide)) ⟨Nat.le_of_ble_eq_true rfl, Nat.le_of_ble_eq_true rfl⟩ dX1_init_57 ?_
  refine VB.putR (k := 1) (i := i) (r := (19, none)) hc hin fb_X1_30 rfl ff_X1_6 rfl rfl rfl rfl rfl rfl (hL 0 1 (by decide)) (by omega) dX1_init_59 ?_
  refine VB.shut (k := 1) (i := i) (hL 0 1 (by decide)) (by omega) rfl rfl ?_
  exact VB.ret (as := []) hc hr dX1_init_62
theorem cbX6 (l : Launch) (G : GG) (a : Nat) (i : Int) (hL : LineAt a i) (hM : a + 19 ≤ nCell) (o : Nat → Nat → Bool) (h : HP) (hz : ∀ j, h 6 i j = 0) (hfl : G.2.2.1 399 = 1 := by assumption) : CB l G yX6_init cX6_init 2 2 18 2838 [(16, i), (18, 1)] (a + 1, (oset o a (fun _ => false), h)) (a + 19, (oset o a oT, (up h 6 i 5 (-1)))) := by
  refine CB.of (lo := [(16, i), (18, 1)]) (by decide) rfl rfl rfl rfl ?_
  intro p e s m args below meth c hc hr hin hx
  have hc : VC G p (rmB 2 18 2838) s m args meth c RX6 cX6_init 2 2 := hc
  refine VB.aload_n (t := 6) hc dX6_init_0 rfl rfl ?_
  refine VB.obj hc mb_X6_3 ob2 ob3 rfl rfl dX6_init_1 ?_
  refine VB.aload_n (t := 6) hc dX6_init_4 rfl rfl ?_
  refine VB.iconst hc dX6_init_5 ?_
  refine VB.put0 (a := a) (ty := .int) (k := 6) (i := i) (j := 1) hc fb_X6_9 gp_X6_1 rfl rfl rfl rfl rfl (hL 0 6 (by decide)) (by omega) (by omega) (hz _) dX6_init_6 rfl rfl ?_
  refine VB.aload_n (t := 6) hc dX6_init_9 rfl rfl ?_
  refine VB.iconst hc dX6_init_10 ?_
  refine VB.put0 (a := a) (ty := .int) (k := 6) (i := i) (j := 2) hc fb_X6_15 gp_X6_2 rfl rfl rfl rfl rfl (hL 0 6 (by decide)) (by omega) (by omega) (hz _) dX6_init_11 rfl rfl ?_
  refine VB.aload_n (t := 6) hc dX6_init_14 rfl rfl ?_
  refine VB.iconst hc dX6_init_15 ?_
  refine VB.put0 (a := a) (ty := .int) (k := 6) (i := i) (j := 3) hc fb_X6_18 gp_X6_3 rfl rfl rfl rfl rfl (hL 0 6 (by decide)) (by omega) (by omega) (hz _) dX6_init_16 rfl rfl ?_
  refine VB.aload_n (t := 6) hc dX6_init_19 rfl rfl ?_
  refine VB.iconst hc dX6_init_20 ?_
  refine VB.put0 (a := a) (ty := .int) (k := 6) (i := i) (j := 4) hc fb_X6_21 gp_X6_4 rfl rfl rfl rfl rfl (hL 0 6 (by decide)) (by omega) (by omega) (hz _) dX6_init_21 rfl rfl ?_
  refine VB.aload_n (t := 6) hc dX6_init_24 rfl rfl ?_
  refine VB.iconst hc dX6_init_25 ?_
  refine VB.putG (a := a) (ty := .int) (k := 6) (i := i) (j := 5) hc fb_X6_24 gp_X6_5 rfl rfl rfl rfl rfl (hL 0 6 (by decide)) (by omega) (by omega) dX6_init_26 rfl rfl ?_
  refine VB.aload_n (t := 6) hc dX6_init_29 rfl rfl ?_
  refine VB.iconst hc dX6_init_30 ?_
  refine VB.put0 (a := a) (ty := .int) (k := 6) (i := i) (j := 6) hc fb_X6_27 gp_X6_6 rfl rfl rfl rfl rfl (hL 0 6 (by decide)) (by omega) (by omega) (by rw [up_j (by decide)]; exact hz _) dX6_init_31 rfl rfl ?_
  refine VB.aload_n (t := 6) hc dX6_init_34 rfl rfl ?_
  refine VB.bipush hc dX6_init_35 rfl ?_
  refine VB.newaI (k := 24) (i := i) (N := 12) hc abI rfl rfl rfl rfl (hL 1 24 (by decide)) ⟨Nat.le_of_ble_eq_true rfl, Nat.le_of_ble_eq_true rfl⟩ dX6_init_37 ?_
  refine VB.putR (k := 6) (i := i) (r := (24, none)) hc hin fb_X6_30 rfl ff_X6_7 rfl rfl rfl rfl rfl rfl (hL 0 6 (by decide)) (by omega) dX6_init_39 ?_
  refine VB.aload_n (t := 6) hc dX6_init_42 rfl rfl ?_
  refine VB.bipush hc dX6_init_43 rfl ?_
  refine VB.newaI (k := 25) (i := i) (N := 12) hc abI rfl rfl rfl rfl (hL 2 25 (by decide)) ⟨Nat.le_of_ble_eq_true rfl, Nat.le_of_ble_eq_true rfl⟩ dX6_init_45 ?_
  refine VB.putR (k := 6) (i := i) (r := (25, none)) hc hin fb_X6_34 rfl ff_X6_8 rfl rfl rfl rfl rfl rfl (hL 0 6 (by decide)) (by omega) dX6_init_47 ?_
  refine VB.aload_n (t := 6) hc dX6_init_50 rfl rfl ?_
  refine VB.bipush hc dX6_init_51 rfl ?_
  refine VB.newaI (k := 26) (i := i) (N := 12) hc abI rfl rfl rfl rfl (hL 3 26 (by decide)) ⟨Nat.le_of_ble_eq_true rfl, Nat.le_of_ble_eq_true rfl⟩ dX6_init_53 ?_
  refine VB.putR (k := 6) (i := i) (r := (26, none)) hc hin fb_X6_37 rfl ff_X6_9 rfl rfl rfl rfl rfl rfl (hL 0 6 (by decide)) (by omega) dX6_init_55 ?_
  refine VB.aload_n (t := 6) hc dX6_init_58 rfl rfl ?_
  refine VB.bipush hc dX6_init_59 rfl ?_
  refine VB.newaI (k := 27) (i := i) (N := 13) hc abI rfl rfl rfl rfl (hL 4 27 (by decide)) ⟨Nat.le_of_ble_eq_true rfl, Nat.le_of_ble_eq_true rfl⟩ dX6_init_61 ?_
  refine VB.putR (k := 6) (i := i) (r := (27, none)) hc hin fb_X6_40 rfl ff_X6_10 rfl rfl rfl rfl rfl rfl (hL 0 6 (by decide)) (by omega) dX6_init_63 ?_
  refine VB.aload_n (t := 6) hc dX6_init_66 rfl rfl ?_
  refine VB.bipush hc dX6_init_67 rfl ?_
  refine VB.newaI (k := 28) (i := i) (N := 12) hc abI rfl rfl rfl rfl (hL 5 28 (by decide)) ⟨Nat.le_of_ble_eq_true rfl, Nat.le_of_ble_eq_true rfl⟩ dX6_init_69 ?_
  refine VB.putR (k := 6) (i := i) (r := (28, none)) hc hin fb_X6_43 rfl ff_X6_11 rfl rfl rfl rfl rfl rfl (hL 0 6 (by decide)) (by omega) dX6_init_71 ?_
  refine VB.aload_n (t := 6) hc dX6_init_74 rfl rfl ?_
  refine VB.bipush hc dX6_init_75 rfl ?_
  refine VB.newaI (k := 29) (i := i) (N := 13) hc abI rfl rfl rfl rfl (hL 6 29 (by decide)) ⟨Nat.le_of_ble_eq_true rfl, Nat.le_of_ble_eq_true rfl⟩ dX6_init_77 ?_
  refine VB.putR (k := 6) (i := i) (r := (29, none)) hc hin fb_X6_46 rfl ff_X6_12 rfl rfl rfl rfl rfl rfl (hL 0 6 (by decide)) (by omega) dX6_init_79 ?_
  refine VB.aload_n (t := 6) hc dX6_init_82 rfl rfl ?_
  refine VB.sipush hc dX6_init_83 rfl ?_
  refine VB.newaI (k := 30) (i := i) (N := 240) hc abI rfl rfl rfl rfl (hL 7 30 (by decide)) ⟨Nat.le_of_ble_eq_true rfl, Nat.le_of_ble_eq_true rfl⟩ dX6_init_86 ?_
  refine VB.putR (k := 6) (i := i) (r := (30, none)) hc hin fb_X6_49 rfl ff_X6_13 rfl rfl rfl rfl rfl rfl (hL 0 6 (by decide)) (by omega) dX6_init_88 ?_
  refine VB.aload_n (t := 6) hc dX6_init_91 rfl rfl ?_
  refine VB.bipush hc dX6_init_92 rfl ?_
  refine VB.newaI (k := 31) (i := i) (N := 12) hc abI rfl rfl rfl rfl (hL 8 31 (by decide)) ⟨Nat.le_of_ble_eq_true rfl, Nat.le_of_ble_eq_true rfl⟩ dX6_init_94 ?_
  refine VB.putR (k := 6) (i := i) (r := (31, none)) hc hin fb_X6_52 rfl ff_X6_14 rfl rfl rfl rfl rfl rfl (hL 0 6 (by decide)) (by omega) dX6_init_96 ?_
  refine VB.aload_n (t := 6) hc dX6_init_99 rfl rfl ?_
  refine VB.bipush hc dX6_init_100 rfl ?_
  refine VB.newaI (k := 32) (i := i) (N := 8) hc abI rfl rfl rfl rfl (hL 9 32 (by decide)) ⟨Nat.le_of_ble_eq_true rfl, Nat.le_of_ble_eq_true rfl⟩ dX6_init_102 ?_
  refine VB.putR (k := 6) (i := i) (r := (32, none)) hc hin fb_X6_55 rfl ff_X6_15 rfl rfl rfl rfl rfl rfl (hL 0 6 (by decide)) (by omega) dX6_init_104 ?_
  refine VB.aload_n (t := 6) hc dX6_init_107 rfl rfl ?_
  refine VB.new (ci := 1) (k := 1) (i := i) (N := 7) hc tyX1 rfl inG_X1 tyX1_ok cb_X6_58 ib_X1 nb_X1 rfl rfl rfl df_X1 (hL 10 1 (by decide)) ⟨Nat.le_of_ble_eq_true rfl, Nat.le_of_ble_eq_true rfl⟩ dX6_init_108 ?_
  intro hT1 hZ1
  refine VB.dup hc dX6_init_111 (Nat.ne_of_beq_eq_false rfl) ?_
  refine VB.callN (k := 1) (i := i) hc hx (cbX1 l G (a + 10) (i) (CurvAt.of_line hL) (by omega) (oset o a (fun x => x == 15 || (fun x => x == 14 || (fun x => x == 13 || (fun x => x == 12 || (fun x => x == 11 || (fun x => x == 10 || (fun x => x == 9 || (fun x => x == 8 || (fun x => x == 7 || (fun _ => false) x) x) x) x) x) x) x) x) x)) (up h 6 i 5 (-1))) mi_X1_init hx.2.2.2.1 rfl rfl rfl rfl rfl ⟨Nat.le_of_ble_eq_true rfl, Nat.le_of_ble_eq_true rfl⟩ rfl dX6_init_112 ?_
  refine VB.drop hT1 ?_
  refine VB.putR (k := 6) (i := i) (r := (1, none)) hc hin fb_X6_61 rfl ff_X6_16 rfl rfl rfl rfl rfl rfl (hL 0 6 (by decide)) (by omega) dX6_init_115 ?_
  refine VB.aload_n (t := 6) hc dX6_init_118 rfl rfl ?_
  refine VB.bipush hc dX6_init_119 rfl ?_
  refine VB.newaI (k := 33) (i := i) (N := 13) hc abI rfl rfl rfl rfl (hL 18 33 (by decide)) ⟨Nat.le_of_ble_eq_true rfl, Nat.le_of_ble_eq_true rfl⟩ dX6_init_121 ?_
  refine VB.putR (k := 6) (i := i) (r := (33, none)) hc hin fb_X6_65 rfl ff_X6_17 rfl rfl rfl rfl rfl rfl (hL 0 6 (by decide)) (by omega) dX6_init_123 ?_
  refine VB.aload_n (t := 6) hc dX6_init_126 rfl rfl ?_
  refine VB.aload_n (t := 8) hc dX6_init_127 rfl rfl ?_
  refine VB.putR (k := 6) (i := i) (r := (8, some 1)) hc hin fb_X6_68 rfl ff_X6_0 rfl rfl rfl rfl rfl rfl (hL 0 6 (by decide)) (by omega) dX6_init_128 ?_
  refine VB.shut (k := 6) (i := i) (hL 0 6 (by decide)) (by omega) rfl rfl ?_
  exact VB.ret (as := []) hc hr dX6_init_131
theorem cbX8_1 (l : Launch) (G : GG) (o : Nat → Nat → Bool) (h : HP) (hz : ∀ j, h 8 1 j = 0) (hfl : G.2.2.1 399 = 1 := by assumption) : CB l G yX8_init cX8_init 1 2 15 2704 [(18, 1)] (4, (oset o 3 (fun _ => false), h)) (19, (oset o 3 oT, h)) := by
  refine CB.of (lo := [(18, 1)]) (by decide) rfl rfl rfl rfl ?_
  intro p e s m args below meth c hc hr hin hx
  have hc : VC G p (rmB 2 15 2704) s m args meth c RX8 cX8_init 1 2 := hc
  refine VB.aload_n (t := 8) hc dX8_init_0 rfl rfl ?_
  refine VB.obj hc mb_X8_3 ob2 ob3 rfl rfl dX8_init_1 ?_
  refine VB.aload_n (t := 8) hc dX8_init_4 rfl rfl ?_
  refine VB.iconst hc dX8_init_5 ?_
  refine VB.put0 (a := 3) (ty := .int) (k := 8) (i := 1) (j := 0) hc fb_X8_9 gp_X8_0 rfl rfl rfl rfl rfl ⟨by decide, by decide⟩ (by decide) (by decide) (hz _) dX8_init_6 rfl rfl ?_
  refine VB.aload_n (t := 8) hc dX8_init_9 rfl rfl ?_
  refine VB.iconst hc dX8_init_10 ?_
  refine VB.put0 (a := 3) (ty := .int) (k := 8) (i := 1) (j := 1) hc fb_X8_15 gp_X8_1 rfl rfl rfl rfl rfl ⟨by decide, by decide⟩ (by decide) (by decide) (hz _) dX8_init_11 rfl rfl ?_
  refine VB.aload_n (t := 8) hc dX8_init_14 rfl rfl ?_
  refine VB.bipush hc dX8_init_15 rfl ?_
  refine VB.newaI (k := 37) (i := 1) (N := 12) hc abI rfl rfl rfl rfl ⟨by decide, by decide⟩ ⟨Nat.le_of_ble_eq_true rfl, Nat.le_of_ble_eq_true rfl⟩ dX8_init_17 ?_
  refine VB.putR (k := 8) (i := 1) (r := (37, none)) hc hin fb_X8_18 rfl ff_X8_2 rfl rfl rfl rfl rfl rfl ⟨by decide, by decide⟩ (by decide) dX8_init_19 ?_
  refine VB.aload_n (t := 8) hc dX8_init_22 rfl rfl ?_
  refine VB.bipush hc dX8_init_23 rfl ?_
  refine VB.newaI (k := 38) (i := 1) (N := 13) hc abI rfl rfl rfl rfl ⟨by decide, by decide⟩ ⟨Nat.le_of_ble_eq_true rfl, Nat.le_of_ble_eq_true rfl⟩ dX8_init_25 ?_
  refine VB.putR (k := 8) (i := 1) (r := (38, none)) hc hin fb_X8_22 rfl ff_X8_3 rfl rfl rfl rfl rfl rfl ⟨by decide, by decide⟩ (by decide) dX8_init_27 ?_
  refine VB.aload_n (t := 8) hc dX8_init_30 rfl rfl ?_
  refine VB.sipush hc dX8_init_31 rfl ?_
  refine VB.newaI (k := 39) (i := 1) (N := 156) hc abI rfl rfl rfl rfl ⟨by decide, by decide⟩ ⟨Nat.le_of_ble_eq_true rfl, Nat.le_of_ble_eq_true rfl⟩ dX8_init_34 ?_
  refine VB.putR (k := 8) (i := 1) (r := (39, none)) hc hin fb_X8_25 rfl ff_X8_4 rfl rfl rfl rfl rfl rfl ⟨by decide, by decide⟩ (by decide) dX8_init_36 ?_
  refine VB.aload_n (t := 8) hc dX8_init_39 rfl rfl ?_
  refine VB.bipush hc dX8_init_40 rfl ?_
  refine VB.newaI (k := 40) (i := 1) (N := 8) hc abI rfl rfl rfl rfl ⟨by decide, by decide⟩ ⟨Nat.le_of_ble_eq_true rfl, Nat.le_of_ble_eq_true rfl⟩ dX8_init_42 ?_
  refine VB.putR (k := 8) (i := 1) (r := (40, none)) hc hin fb_X8_28 rfl ff_X8_5 rfl rfl rfl rfl rfl rfl ⟨by decide, by decide⟩ (by decide) dX8_init_44 ?_
  refine VB.aload_n (t := 8) hc dX8_init_47 rfl rfl ?_
  refine VB.bipush hc dX8_init_48 rfl ?_
  refine VB.newaI (k := 41) (i := 1) (N := 8) hc abI rfl rfl rfl rfl ⟨by decide, by decide⟩ ⟨Nat.le_of_ble_eq_true rfl, Nat.le_of_ble_eq_true rfl⟩ dX8_init_50 ?_
  refine VB.putR (k := 8) (i := 1) (r := (41, none)) hc hin fb_X8_31 rfl ff_X8_6 rfl rfl rfl rfl rfl rfl ⟨by decide, by decide⟩ (by decide) dX8_init_52 ?_
  refine VB.aload_n (t := 8) hc dX8_init_55 rfl rfl ?_
  refine VB.bipush hc dX8_init_56 rfl ?_
  refine VB.newaI (k := 42) (i := 1) (N := 8) hc abI rfl rfl rfl rfl ⟨by decide, by decide⟩ ⟨Nat.le_of_ble_eq_true rfl, Nat.le_of_ble_eq_true rfl⟩ dX8_init_58 ?_
  refine VB.putR (k := 8) (i := 1) (r := (42, none)) hc hin fb_X8_34 rfl ff_X8_7 rfl rfl rfl rfl rfl rfl ⟨by decide, by decide⟩ (by decide) dX8_init_60 ?_
  refine VB.aload_n (t := 8) hc dX8_init_63 rfl rfl ?_
  refine VB.bipush hc dX8_init_64 rfl ?_
  refine VB.newaI (k := 43) (i := 1) (N := 8) hc abI rfl rfl rfl rfl ⟨by decide, by decide⟩ ⟨Nat.le_of_ble_eq_true rfl, Nat.le_of_ble_eq_true rfl⟩ dX8_init_66 ?_
  refine VB.putR (k := 8) (i := 1) (r := (43, none)) hc hin fb_X8_37 rfl ff_X8_8 rfl rfl rfl rfl rfl rfl ⟨by decide, by decide⟩ (by decide) dX8_init_68 ?_
  refine VB.aload_n (t := 8) hc dX8_init_71 rfl rfl ?_
  refine VB.new (ci := 1) (k := 1) (i := 1) (N := 7) hc tyX1 rfl inG_X1 tyX1_ok cb_X8_40 ib_X1 nb_X1 rfl rfl rfl df_X1 ⟨by decide, by decide⟩ ⟨Nat.le_of_ble_eq_true rfl, Nat.le_of_ble_eq_true rfl⟩ dX8_init_72 ?_
  intro hT1 hZ1
  refine VB.dup hc dX8_init_75 (Nat.ne_of_beq_eq_false rfl) ?_
  refine VB.callN (k := 1) (i := 1) hc hx (cbX1 l G (11) (1) (curvAt_1) (by decide) (oset o 3 (fun x => x == 8 || (fun x => x == 7 || (fun x => x == 6 || (fun x => x == 5 || (fun x => x == 4 || (fun x => x == 3 || (fun x => x == 2 || (fun _ => false) x) x) x) x) x) x) x)) h) mi_X1_init hx.2.2.1 rfl rfl rfl rfl rfl ⟨Nat.le_of_ble_eq_true rfl, Nat.le_of_ble_eq_true rfl⟩ rfl dX8_init_76 ?_
  refine VB.drop hT1 ?_
  refine VB.putR (k := 8) (i := 1) (r := (1, none)) hc hin fb_X8_43 rfl ff_X8_9 rfl rfl rfl rfl rfl rfl ⟨by decide, by decide⟩ (by decide) dX8_init_79 ?_
  refine VB.shut (k := 8) (i := 1) ⟨by decide, by decide⟩ (by decide) rfl rfl ?_
  exact VB.ret (as := []) hc hr dX8_init_82
theorem cbX8_2 (l : Launch) (G : GG) (o : Nat → Nat → Bool) (h : HP) (hz : ∀ j, h 8 2 j = 0) (hfl : G.2.2.1 399 = 1 := by assumption) : CB l G yX8_init cX8_init 1 2 15 2704 [(18, 2)] (20, (oset o 19 (fun _ => false), h)) (35, (oset o 19 oT, h)) := by
  refine CB.of (lo := [(18, 2)]) (by decide) rfl rfl rfl rfl ?_
  intro p e s m args below meth c hc hr hin hx
  have hc : VC G p (rmB 2 15 2704) s m args meth c RX8 cX8_init 1 2 := hc
  refine VB.aload_n (t := 8) hc dX8_init_0 rfl rfl ?_
  refine VB.obj hc mb_X8_3 ob2 ob3 rfl rfl dX8_init_1 ?_
  refine VB.aload_n (t := 8) hc dX8_init_4 rfl rfl ?_
  refine VB.iconst hc dX8_init_5 ?_
  refine VB.put0 (a := 19) (ty := .int) (k := 8) (i := 2) (j := 0) hc fb_X8_9 gp_X8_0 rfl rfl rfl rfl rfl ⟨by decide, by decide⟩ (by decide) (by decide) (hz _) dX8_init_6 rfl rfl ?_
  refine VB.aload_n (t := 8) hc dX8_init_9 rfl rfl ?_
  refine VB.iconst hc dX8_init_10 ?_
  refine VB.put0 (a := 19) (ty := .int) (k := 8) (i := 2) (j := 1) hc fb_X8_15 gp_X8_1 rfl rfl rfl rfl rfl ⟨by decide, by decide⟩ (by decide) (by decide) (hz _) dX8_init_11 rfl rfl ?_
  refine VB.aload_n (t := 8) hc dX8_init_14 rfl rfl ?_
  refine VB.bipush hc dX8_init_15 rfl ?_
  refine VB.newaI (k := 37) (i := 2) (N := 12) hc abI rfl rfl rfl rfl ⟨by decide, by decide⟩ ⟨Nat.le_of_ble_eq_true rfl, Nat.le_of_ble_eq_true rfl⟩ dX8_init_17 ?_
  refine VB.putR (k := 8) (i := 2) (r := (37, none)) hc hin fb_X8_18 rfl ff_X8_2 rfl rfl rfl rfl rfl rfl ⟨by decide, by decide⟩ (by decide) dX8_init_19 ?_
  refine VB.aload_n (t := 8) hc dX8_init_22 rfl rfl ?_
  refine VB.bipush hc dX8_init_23 rfl ?_
  refine VB.newaI (k := 38) (i := 2) (N := 13) hc abI rfl rfl rfl rfl ⟨by decide, by decide⟩ ⟨Nat.le_of_ble_eq_true rfl, Nat.le_of_ble_eq_true rfl⟩ dX8_init_25 ?_
  refine VB.putR (k := 8) (i := 2) (r := (38, none)) hc hin fb_X8_22 rfl ff_X8_3 rfl rfl rfl rfl rfl rfl ⟨by decide, by decide⟩ (by decide) dX8_init_27 ?_
  refine VB.aload_n (t := 8) hc dX8_init_30 rfl rfl ?_
  refine VB.sipush hc dX8_init_31 rfl ?_
  refine VB.newaI (k := 39) (i := 2) (N := 156) hc abI rfl rfl rfl rfl ⟨by decide, by decide⟩ ⟨Nat.le_of_ble_eq_true rfl, Nat.le_of_ble_eq_true rfl⟩ dX8_init_34 ?_
  refine VB.putR (k := 8) (i := 2) (r := (39, none)) hc hin fb_X8_25 rfl ff_X8_4 rfl rfl rfl rfl rfl rfl ⟨by decide, by decide⟩ (by decide) dX8_init_36 ?_
  refine VB.aload_n (t := 8) hc dX8_init_39 rfl rfl ?_
  refine VB.bipush hc dX8_init_40 rfl ?_
  refine VB.newaI (k := 40) (i := 2) (N := 8) hc abI rfl rfl rfl rfl ⟨by decide, by decide⟩ ⟨Nat.le_of_ble_eq_true rfl, Nat.le_of_ble_eq_true rfl⟩ dX8_init_42 ?_
  refine VB.putR (k := 8) (i := 2) (r := (40, none)) hc hin fb_X8_28 rfl ff_X8_5 rfl rfl rfl rfl rfl rfl ⟨by decide, by decide⟩ (by decide) dX8_init_44 ?_
  refine VB.aload_n (t := 8) hc dX8_init_47 rfl rfl ?_
  refine VB.bipush hc dX8_init_48 rfl ?_
  refine VB.newaI (k := 41) (i := 2) (N := 8) hc abI rfl rfl rfl rfl ⟨by decide, by decide⟩ ⟨Nat.le_of_ble_eq_true rfl, Nat.le_of_ble_eq_true rfl⟩ dX8_init_50 ?_
  refine VB.putR (k := 8) (i := 2) (r := (41, none)) hc hin fb_X8_31 rfl ff_X8_6 rfl rfl rfl rfl rfl rfl ⟨by decide, by decide⟩ (by decide) dX8_init_52 ?_
  refine VB.aload_n (t := 8) hc dX8_init_55 rfl rfl ?_
  refine VB.bipush hc dX8_init_56 rfl ?_
  refine VB.newaI (k := 42) (i := 2) (N := 8) hc abI rfl rfl rfl rfl ⟨by decide, by decide⟩ ⟨Nat.le_of_ble_eq_true rfl, Nat.le_of_ble_eq_true rfl⟩ dX8_init_58 ?_
  refine VB.putR (k := 8) (i := 2) (r := (42, none)) hc hin fb_X8_34 rfl ff_X8_7 rfl rfl rfl rfl rfl rfl ⟨by decide, by decide⟩ (by decide) dX8_init_60 ?_
  refine VB.aload_n (t := 8) hc dX8_init_63 rfl rfl ?_
  refine VB.bipush hc dX8_init_64 rfl ?_
  refine VB.newaI (k := 43) (i := 2) (N := 8) hc abI rfl rfl rfl rfl ⟨by decide, by decide⟩ ⟨Nat.le_of_ble_eq_true rfl, Nat.le_of_ble_eq_true rfl⟩ dX8_init_66 ?_
  refine VB.putR (k := 8) (i := 2) (r := (43, none)) hc hin fb_X8_37 rfl ff_X8_8 rfl rfl rfl rfl rfl rfl ⟨by decide, by decide⟩ (by decide) dX8_init_68 ?_
  refine VB.aload_n (t := 8) hc dX8_init_71 rfl rfl ?_
  refine VB.new (ci := 1) (k := 1) (i := 2) (N := 7) hc tyX1 rfl inG_X1 tyX1_ok cb_X8_40 ib_X1 nb_X1 rfl rfl rfl df_X1 ⟨by decide, by decide⟩ ⟨Nat.le_of_ble_eq_true rfl, Nat.le_of_ble_eq_true rfl⟩ dX8_init_72 ?_
  intro hT1 hZ1
  refine VB.dup hc dX8_init_75 (Nat.ne_of_beq_eq_false rfl) ?_
  refine VB.callN (k := 1) (i := 2) hc hx (cbX1 l G (27) (2) (curvAt_2) (by decide) (oset o 19 (fun x => x == 8 || (fun x => x == 7 || (fun x => x == 6 || (fun x => x == 5 || (fun x => x == 4 || (fun x => x == 3 || (fun x => x == 2 || (fun _ => false) x) x) x) x) x) x) x)) h) mi_X1_init hx.2.2.1 rfl rfl rfl rfl rfl ⟨Nat.le_of_ble_eq_true rfl, Nat.le_of_ble_eq_true rfl⟩ rfl dX8_init_76 ?_
  refine VB.drop hT1 ?_
  refine VB.putR (k := 8) (i := 2) (r := (1, none)) hc hin fb_X8_43 rfl ff_X8_9 rfl rfl rfl rfl rfl rfl ⟨by decide, by decide⟩ (by decide) dX8_init_79 ?_
  refine VB.shut (k := 8) (i := 2) ⟨by decide, by decide⟩ (by decide) rfl rfl ?_
  exact VB.ret (as := []) hc hr dX8_init_82
theorem cbX7_5 (l : Launch) (G : GG) (o : Nat → Nat → Bool) (h : HP) (hz : ∀ j, h 7 5 j = 0) (hfl : G.2.2.1 399 = 1 := by assumption) : CB l G yX7_init cX7_init 1 1 3 24 [(17, 5)] (818, (oset o 817 (fun _ => false), h)) (821, (oset o 817 oT, h)) := by
  refine CB.of (lo := [(17, 5)]) (by decide) rfl rfl rfl rfl ?_
  intro p e s m args below meth c hc hr hin hx
  have hc : VC G p (rmB 1 3 24) s m args meth c RX7 cX7_init 1 1 := hc
  refine VB.aload_n (t := 7) hc dX7_init_0 rfl rfl ?_
  refine VB.obj hc mb_X7_3 ob2 ob3 rfl rfl dX7_init_1 ?_
  refine VB.aload_n (t := 7) hc dX7_init_4 rfl rfl ?_
  refine VB.iconst hc dX7_init_5 ?_
  refine VB.put0 (a := 817) (ty := .int) (k := 7) (i := 5) (j := 0) hc fb_X7_9 gp_X7_0 rfl rfl rfl rfl rfl ⟨by decide, by decide⟩ (by decide) (by decide) (hz _) dX7_init_6 rfl rfl ?_
  refine VB.aload_n (t := 7) hc dX7_init_9 rfl rfl ?_
  refine VB.bipush hc dX7_init_10 rfl ?_
  refine VB.newaI (k := 34) (i := 5) (N := 8) hc abI rfl rfl rfl rfl ⟨by decide, by decide⟩ ⟨Nat.le_of_ble_eq_true rfl, Nat.le_of_ble_eq_true rfl⟩ dX7_init_12 ?_
  refine VB.putR (k := 7) (i := 5) (r := (34, none)) hc hin fb_X7_15 rfl ff_X7_1 rfl rfl rfl rfl rfl rfl ⟨by decide, by decide⟩ (by decide) dX7_init_14 ?_
  refine VB.aload_n (t := 7) hc dX7_init_17 rfl rfl ?_
  refine VB.bipush hc dX7_init_18 rfl ?_
  refine VB.newaI (k := 35) (i := 5) (N := 8) hc abI rfl rfl rfl rfl ⟨by decide, by decide⟩ ⟨Nat.le_of_ble_eq_true rfl, Nat.le_of_ble_eq_true rfl⟩ dX7_init_20 ?_
  refine VB.putR (k := 7) (i := 5) (r := (35, none)) hc hin fb_X7_19 rfl ff_X7_2 rfl rfl rfl rfl rfl rfl ⟨by decide, by decide⟩ (by decide) dX7_init_22 ?_
  refine VB.aload_n (t := 7) hc dX7_init_25 rfl rfl ?_
  refine VB.bipush hc dX7_init_26 rfl ?_
  refine VB.newaI (k := 36) (i := 5) (N := 8) hc abI rfl rfl rfl rfl ⟨by decide, by decide⟩ ⟨Nat.le_of_ble_eq_true rfl, Nat.le_of_ble_eq_true rfl⟩ dX7_init_28 ?_
  refine VB.putR (k := 7) (i := 5) (r := (36, none)) hc hin fb_X7_22 rfl ff_X7_3 rfl rfl rfl rfl rfl rfl ⟨by decide, by decide⟩ (by decide) dX7_init_30 ?_
  refine VB.shut (k := 7) (i := 5) ⟨by decide, by decide⟩ (by decide) rfl rfl ?_
  exact VB.ret (as := []) hc hr dX7_init_33
theorem cbX7_6 (l : Launch) (G : GG) (o : Nat → Nat → Bool) (h : HP) (hz : ∀ j, h 7 6 j = 0) (hfl : G.2.2.1 399 = 1 := by assumption) : CB l G yX7_init cX7_init 1 1 3 24 [(17, 6)] (1603, (oset o 1602 (fun _ => false), h)) (1606, (oset o 1602 oT, h)) := by
  refine CB.of (lo := [(17, 6)]) (by decide) rfl rfl rfl rfl ?_
  intro p e s m args below meth c hc hr hin hx
  have hc : VC G p (rmB 1 3 24) s m args meth c RX7 cX7_init 1 1 := hc
  refine VB.aload_n (t := 7) hc dX7_init_0 rfl rfl ?_
  refine VB.obj hc mb_X7_3 ob2 ob3 rfl rfl dX7_init_1 ?_
  refine VB.aload_n (t := 7) hc dX7_init_4 rfl rfl ?_
  refine VB.iconst hc dX7_init_5 ?_
  refine VB.put0 (a := 1602) (ty := .int) (k := 7) (i := 6) (j := 0) hc fb_X7_9 gp_X7_0 rfl rfl rfl rfl rfl ⟨by decide, by decide⟩ (by decide) (by decide) (hz _) dX7_init_6 rfl rfl ?_
  refine VB.aload_n (t := 7) hc dX7_init_9 rfl rfl ?_
  refine VB.bipush hc dX7_init_10 rfl ?_
  refine VB.newaI (k := 34) (i := 6) (N := 8) hc abI rfl rfl rfl rfl ⟨by decide, by decide⟩ ⟨Nat.le_of_ble_eq_true rfl, Nat.le_of_ble_eq_true rfl⟩ dX7_init_12 ?_
  refine VB.putR (k := 7) (i := 6) (r := (34, none)) hc hin fb_X7_15 rfl ff_X7_1 rfl rfl rfl rfl rfl rfl ⟨by decide, by decide⟩ (by decide) dX7_init_14 ?_
  refine VB.aload_n (t := 7) hc dX7_init_17 rfl rfl ?_
  refine VB.bipush hc dX7_init_18 rfl ?_
  refine VB.newaI (k := 35) (i := 6) (N := 8) hc abI rfl rfl rfl rfl ⟨by decide, by decide⟩ ⟨Nat.le_of_ble_eq_true rfl, Nat.le_of_ble_eq_true rfl⟩ dX7_init_20 ?_
  refine VB.putR (k := 7) (i := 6) (r := (35, none)) hc hin fb_X7_19 rfl ff_X7_2 rfl rfl rfl rfl rfl rfl ⟨by decide, by decide⟩ (by decide) dX7_init_22 ?_
  refine VB.aload_n (t := 7) hc dX7_init_25 rfl rfl ?_
  refine VB.bipush hc dX7_init_26 rfl ?_
  refine VB.newaI (k := 36) (i := 6) (N := 8) hc abI rfl rfl rfl rfl ⟨by decide, by decide⟩ ⟨Nat.le_of_ble_eq_true rfl, Nat.le_of_ble_eq_true rfl⟩ dX7_init_28 ?_
  refine VB.putR (k := 7) (i := 6) (r := (36, none)) hc hin fb_X7_22 rfl ff_X7_3 rfl rfl rfl rfl rfl rfl ⟨by decide, by decide⟩ (by decide) dX7_init_30 ?_
  refine VB.shut (k := 7) (i := 6) ⟨by decide, by decide⟩ (by decide) rfl rfl ?_
  exact VB.ret (as := []) hc hr dX7_init_33
theorem cbX5_3 (l : Launch) (G : GG) (o : Nat → Nat → Bool) (h : HP) (hz : ∀ j, h 5 3 j = 0) (hfl : G.2.2.1 399 = 1 := by assumption) : CB l G yX5_init cX5_init 3 3 761 114280 [(15, 3), (18, 1)] (56, (oset o 55 (fun _ => false), h)) (817, (oset o 55 oT, hist h 20 40)) := by
  refine CB.of (lo := [(15, 3), (18, 1), (1, 0)]) (by decide) rfl rfl rfl rfl ?_
  intro p e s m args below meth c hc hr hin hx
  have hc : VC G p (rmB 3 761 114280) s m args meth c RX5 cX5_init 3 3 := hc
  refine VB.aload_n (t := 5) hc dX5_init_0 rfl rfl ?_
  refine VB.obj hc mb_X5_3 ob2 ob3 rfl rfl dX5_init_1 ?_
  refine VB.aload_n (t := 5) hc dX5_init_4 rfl rfl ?_
  refine VB.bipush hc dX5_init_5 rfl ?_
  refine VB.newL (i := 3) hc cb_X5_9 hx.1 ⟨by decide, by decide⟩ ⟨Nat.le_of_ble_eq_true rfl, Nat.le_of_ble_eq_true rfl⟩ dX5_init_7 ?_
  intro hT
  refine VB.swap (by decide) ?_
  refine VB.putR (ty := .array (.object RX6)) (k := 5) (i := 3) (r := (23, none)) hc hin fb_X5_11 rfl ff_X5_0 rfl rfl rfl rfl rfl rfl ⟨by decide, by decide⟩ (by decide) dX5_init_10 ?_
  refine VB.aload_n (t := 5) hc dX5_init_13 rfl rfl ?_
  refine VB.iconst hc dX5_init_14 ?_
  refine VB.put0 (a := 55) (ty := .int) (k := 5) (i := 3) (j := 1) hc fb_X5_17 gp_X5_1 rfl rfl rfl rfl rfl ⟨by decide, by decide⟩ (by decide) (by decide) (hz _) dX5_init_15 rfl rfl ?_
  refine VB.aload_n (t := 5) hc dX5_init_18 rfl rfl ?_
  refine VB.iconst hc dX5_init_19 ?_
  refine VB.put0 (a := 55) (ty := .int) (k := 5) (i := 3) (j := 2) hc fb_X5_21 gp_X5_2 rfl rfl rfl rfl rfl ⟨by decide, by decide⟩ (by decide) (by decide) (hz _) dX5_init_20 rfl rfl ?_
  refine VB.shut (k := 5) (i := 3) ⟨by decide, by decide⟩ (by decide) rfl rfl ?_
  refine VB.swap (by decide) ?_
  refine VB.iconst hc dX5_init_23 ?_
  refine VB.istore_n hc dX5_init_24 rfl rfl rfl ?_
  have key : ∀ r q M n n2 : Nat, q + r = 40 → M = 57 + 19 * q → n = 1 + 19 * q → n2 = 40 + 2856 * q → VB G p l e (rmB 3 761 114280) s m args below meth c (MQ below (QB G (817, (oset o 55 oT, hist h 20 40))) args s 761 114280 (va_Aof G)) 3 25 [(15, 3), (18, 1), (0, (q : Int))] [] (M, (oset (oset o 55 oT) 56 (fun x => decide (x < q) || Nat.ble 40 x), hist h 20 q)) n n2 := by
    intro r
    induction r with
    | zero =>
      intro q M n n2 h1 h2 h3 h4
      have hq : q = 40 := by omega
      subst hq
      refine VB.iload_n hc dX5_init_25 rfl rfl ?_
      refine VB.bipush hc dX5_init_26 rfl ?_
      refine VB.icmp_ge hc (tgt := 51) dX5_init_28 (by decide) (by unfold inR; omega) (by unfold inR; omega) (fun _ => ?_) (fun z => absurd (by omega) z)
      refine VB.shutA (by
        funext x
        show (decide (x < 40) || Nat.ble 40 x) = true
        rw [Bool.or_eq_true, decide_eq_true_eq, Nat.ble_eq]
        omega) ?_
      refine VB.drop (by
        unfold oset at hT ⊢
        rw [if_neg (by decide)] at hT ⊢
        exact hT) ?_
      subst h2 h3 h4
      exact VB.ret (as := []) hc hr dX5_init_51
    | succ r ih =>
      intro q M n n2 h1 h2 h3 h4
      have hq : q < 40 := by omega
      have hL := lineAt_h3 hq
      have hL0 : kAt 6 (20 + (q : Int)) = 57 + 19 * q := (hL 0 6 (by decide)).1
      refine VB.iload_n hc dX5_init_25 rfl rfl ?_
      refine VB.bipush hc dX5_init_26 rfl ?_
      refine VB.icmp_ge hc (tgt := 51) dX5_init_28 (by decide) (by unfold inR; omega) (by unfold inR; omega) (fun z => absurd z (by omega)) (fun _ => ?_)
      refine VB.aload_n (t := 5) hc dX5_init_31 rfl rfl ?_
      refine VB.getR (a := 55) (k := 5) (i := 3) (k' := 23) (i' := 3) (r := (23, none)) hc fb_X5_11 rfl rfl rfl rfl rfl rfl ⟨by decide, by decide⟩ (by omega) rfl dX5_init_32 ?_
      refine VB.iload_n hc dX5_init_35 rfl rfl ?_
      subst h2
      refine VB.new (ci := 6) (k := 6) (i := 20 + (q : Int)) (N := 18) hc tyX6 rfl inG_X6 tyX6_ok cb_X5_9 ib_X6 nb_X6 rfl rfl rfl df_X6 (hL 0 6 (by decide)) ⟨by show n + 1 ≤ 761; omega, by show n2 + 18 ≤ 114280; omega⟩ dX5_init_36 ?_
      intro hT1 hZ1
      refine VB.dup hc dX5_init_39 (Nat.ne_of_beq_eq_false rfl) ?_
      refine VB.aload_n (t := 8) hc dX5_init_40 rfl rfl ?_
      refine VB.call (k := 6) (i := 20 + (q : Int)) hc hx (cbX6 l G (57 + 19 * q) (20 + (q : Int)) hL (by show 57 + 19 * q + 19 ≤ 1635; omega) (oset (oset o 55 oT) 56 (fun x => decide (x < q) || Nat.ble 40 x)) (hist h 20 q) hZ1) mi_X6_init mb_X5_24 rfl rfl rfl rfl rfl ⟨by show n + 1 + 18 ≤ 761; omega, by show n2 + 18 + 2838 ≤ 114280; omega⟩ rfl dX5_init_41 ?_
      refine VB.drop hT1 ?_
      refine VB.aastL (a := 56) (i := 3) hc ⟨by omega, by omega⟩ (by rw [if_pos rfl]) ⟨by decide, by decide⟩ (by omega) (by omega) dX5_init_44 ?_
      refine VB.iinc hc dX5_init_45 rfl rfl rfl ?_
      refine VB.goto hc (tgt := 25) dX5_init_48 (by decide) ?_
      have hf : (fun x : Nat => x == ((q : Int)).toNat || (decide (x < q) || Nat.ble 40 x)) = (fun x => decide (x < q + 1) || Nat.ble 40 x) := by
        funext x
        rw [show ((q : Int)).toNat = q by omega, ← Bool.or_assoc]
        congr 1
        rw [Bool.eq_iff_iff, Bool.or_eq_true, beq_iff_eq, decide_eq_true_eq, decide_eq_true_eq]
        omega
      have k9 := ih (q + 1) (57 + 19 * q + 19) (n + 1 + 18) (n2 + 18 + 2838) (by omega) (by omega) (by omega) (by omega)
      rw [← hf, show (((q + 1 : Nat)) : Int) = (q : Int) + 1 by omega] at k9
      exact k9
  have hf0 : (fun j => Nat.ble 40 j) = (fun x : Nat => decide (x < 0) || Nat.ble 40 x) := by
    funext x
    rw [decide_eq_false (by omega), Bool.false_or]
  rw [hf0]
  exact key 40 0 57 1 40 rfl rfl rfl rfl
theorem cbX5_4 (l : Launch) (G : GG) (o : Nat → Nat → Bool) (h : HP) (hz : ∀ j, h 5 4 j = 0) (hfl : G.2.2.1 399 = 1 := by assumption) : CB l G yX5_init cX5_init 3 3 761 114280 [(15, 4), (18, 1)] (841, (oset o 840 (fun _ => false), h)) (1602, (oset o 840 oT, hist h 60 40)) := by
  refine CB.of (lo := [(15, 4), (18, 1), (1, 0)]) (by decide) rfl rfl rfl rfl ?_
  intro p e s m args below meth c hc hr hin hx
  have hc : VC G p (rmB 3 761 114280) s m args meth c RX5 cX5_init 3 3 := hc
  refine VB.aload_n (t := 5) hc dX5_init_0 rfl rfl ?_
  refine VB.obj hc mb_X5_3 ob2 ob3 rfl rfl dX5_init_1 ?_
  refine VB.aload_n (t := 5) hc dX5_init_4 rfl rfl ?_
  refine VB.bipush hc dX5_init_5 rfl ?_
  refine VB.newL (i := 4) hc cb_X5_9 hx.1 ⟨by decide, by decide⟩ ⟨Nat.le_of_ble_eq_true rfl, Nat.le_of_ble_eq_true rfl⟩ dX5_init_7 ?_
  intro hT
  refine VB.swap (by decide) ?_
  refine VB.putR (ty := .array (.object RX6)) (k := 5) (i := 4) (r := (23, none)) hc hin fb_X5_11 rfl ff_X5_0 rfl rfl rfl rfl rfl rfl ⟨by decide, by decide⟩ (by decide) dX5_init_10 ?_
  refine VB.aload_n (t := 5) hc dX5_init_13 rfl rfl ?_
  refine VB.iconst hc dX5_init_14 ?_
  refine VB.put0 (a := 840) (ty := .int) (k := 5) (i := 4) (j := 1) hc fb_X5_17 gp_X5_1 rfl rfl rfl rfl rfl ⟨by decide, by decide⟩ (by decide) (by decide) (hz _) dX5_init_15 rfl rfl ?_
  refine VB.aload_n (t := 5) hc dX5_init_18 rfl rfl ?_
  refine VB.iconst hc dX5_init_19 ?_
  refine VB.put0 (a := 840) (ty := .int) (k := 5) (i := 4) (j := 2) hc fb_X5_21 gp_X5_2 rfl rfl rfl rfl rfl ⟨by decide, by decide⟩ (by decide) (by decide) (hz _) dX5_init_20 rfl rfl ?_
  refine VB.shut (k := 5) (i := 4) ⟨by decide, by decide⟩ (by decide) rfl rfl ?_
  refine VB.swap (by decide) ?_
  refine VB.iconst hc dX5_init_23 ?_
  refine VB.istore_n hc dX5_init_24 rfl rfl rfl ?_
  have key : ∀ r q M n n2 : Nat, q + r = 40 → M = 842 + 19 * q → n = 1 + 19 * q → n2 = 40 + 2856 * q → VB G p l e (rmB 3 761 114280) s m args below meth c (MQ below (QB G (1602, (oset o 840 oT, hist h 60 40))) args s 761 114280 (va_Aof G)) 3 25 [(15, 4), (18, 1), (0, (q : Int))] [] (M, (oset (oset o 840 oT) 841 (fun x => decide (x < q) || Nat.ble 40 x), hist h 60 q)) n n2 := by
    intro r
    induction r with
    | zero =>
      intro q M n n2 h1 h2 h3 h4
      have hq : q = 40 := by omega
      subst hq
      refine VB.iload_n hc dX5_init_25 rfl rfl ?_
      refine VB.bipush hc dX5_init_26 rfl ?_
      refine VB.icmp_ge hc (tgt := 51) dX5_init_28 (by decide) (by unfold inR; omega) (by unfold inR; omega) (fun _ => ?_) (fun z => absurd (by omega) z)
      refine VB.shutA (by
        funext x
        show (decide (x < 40) || Nat.ble 40 x) = true
        rw [Bool.or_eq_true, decide_eq_true_eq, Nat.ble_eq]
        omega) ?_
      refine VB.drop (by
        unfold oset at hT ⊢
        rw [if_neg (by decide)] at hT ⊢
        exact hT) ?_
      subst h2 h3 h4
      exact VB.ret (as := []) hc hr dX5_init_51
    | succ r ih =>
      intro q M n n2 h1 h2 h3 h4
      have hq : q < 40 := by omega
      have hL := lineAt_h4 hq
      have hL0 : kAt 6 (60 + (q : Int)) = 842 + 19 * q := (hL 0 6 (by decide)).1
      refine VB.iload_n hc dX5_init_25 rfl rfl ?_
      refine VB.bipush hc dX5_init_26 rfl ?_
      refine VB.icmp_ge hc (tgt := 51) dX5_init_28 (by decide) (by unfold inR; omega) (by unfold inR; omega) (fun z => absurd z (by omega)) (fun _ => ?_)
      refine VB.aload_n (t := 5) hc dX5_init_31 rfl rfl ?_
      refine VB.getR (a := 840) (k := 5) (i := 4) (k' := 23) (i' := 4) (r := (23, none)) hc fb_X5_11 rfl rfl rfl rfl rfl rfl ⟨by decide, by decide⟩ (by omega) rfl dX5_init_32 ?_
      refine VB.iload_n hc dX5_init_35 rfl rfl ?_
      subst h2
      refine VB.new (ci := 6) (k := 6) (i := 60 + (q : Int)) (N := 18) hc tyX6 rfl inG_X6 tyX6_ok cb_X5_9 ib_X6 nb_X6 rfl rfl rfl df_X6 (hL 0 6 (by decide)) ⟨by show n + 1 ≤ 761; omega, by show n2 + 18 ≤ 114280; omega⟩ dX5_init_36 ?_
      intro hT1 hZ1
      refine VB.dup hc dX5_init_39 (Nat.ne_of_beq_eq_false rfl) ?_
      refine VB.aload_n (t := 8) hc dX5_init_40 rfl rfl ?_
      refine VB.call (k := 6) (i := 60 + (q : Int)) hc hx (cbX6 l G (842 + 19 * q) (60 + (q : Int)) hL (by show 842 + 19 * q + 19 ≤ 1635; omega) (oset (oset o 840 oT) 841 (fun x => decide (x < q) || Nat.ble 40 x)) (hist h 60 q) hZ1) mi_X6_init mb_X5_24 rfl rfl rfl rfl rfl ⟨by show n + 1 + 18 ≤ 761; omega, by show n2 + 18 + 2838 ≤ 114280; omega⟩ rfl dX5_init_41 ?_
      refine VB.drop hT1 ?_
      refine VB.aastL (a := 841) (i := 4) hc ⟨by omega, by omega⟩ (by rw [if_neg (by decide)]) ⟨by decide, by decide⟩ (by omega) (by omega) dX5_init_44 ?_
      refine VB.iinc hc dX5_init_45 rfl rfl rfl ?_
      refine VB.goto hc (tgt := 25) dX5_init_48 (by decide) ?_
      have hf : (fun x : Nat => x == ((q : Int)).toNat || (decide (x < q) || Nat.ble 40 x)) = (fun x => decide (x < q + 1) || Nat.ble 40 x) := by
        funext x
        rw [show ((q : Int)).toNat = q by omega, ← Bool.or_assoc]
        congr 1
        rw [Bool.eq_iff_iff, Bool.or_eq_true, beq_iff_eq, decide_eq_true_eq, decide_eq_true_eq]
        omega
      have k9 := ih (q + 1) (842 + 19 * q + 19) (n + 1 + 18) (n2 + 18 + 2838) (by omega) (by omega) (by omega) (by omega)
      rw [← hf, show (((q + 1 : Nat)) : Int) = (q : Int) + 1 by omega] at k9
      exact k9
  have hf0 : (fun j => Nat.ble 40 j) = (fun x : Nat => decide (x < 0) || Nat.ble 40 x) := by
    funext x
    rw [decide_eq_false (by omega), Bool.false_or]
  rw [hf0]
  exact key 40 0 842 1 40 rfl rfl rfl rfl
theorem cbX9 (l : Launch) (G : GG) (o : Nat → Nat → Bool) (h : HP) (hz : ∀ j, h 9 0 j = 0) (hfl : G.2.2.1 399 = 1 := by assumption) : CB l G yX9_init cX9_init 3 1 0 0 [(19, 0), (55, 0), (18, 2)] (36, (oset o 35 (fun _ => false), h)) (36, (oset o 35 oT, h)) := by
  refine CB.of (lo := [(19, 0), (55, 0), (18, 2)]) (by decide) rfl rfl rfl rfl ?_
  intro p e s m args below meth c hc hr hin hx
  have hc : VC G p (rmB 1 0 0) s m args meth c RX9 cX9_init 3 1 := hc
  refine VB.aload_n (t := 9) hc dX9_init_0 rfl rfl ?_
  refine VB.obj hc mb_X9_3 ob2 ob3 rfl rfl dX9_init_1 ?_
  refine VB.aload_n (t := 9) hc dX9_init_4 rfl rfl ?_
  refine VB.iconst hc dX9_init_5 ?_
  refine VB.put0 (a := 35) (ty := .int) (k := 9) (i := 0) (j := 2) hc fb_X9_9 gp_X9_2 rfl rfl rfl rfl rfl ⟨by decide, by decide⟩ (by decide) (by decide) (hz _) dX9_init_6 rfl rfl ?_
  refine VB.aload_n (t := 9) hc dX9_init_9 rfl rfl ?_
  refine VB.iconst hc dX9_init_10 ?_
  refine VB.put0 (a := 35) (ty := .int) (k := 9) (i := 0) (j := 3) hc fb_X9_15 gp_X9_3 rfl rfl rfl rfl rfl ⟨by decide, by decide⟩ (by decide) (by decide) (hz _) dX9_init_11 rfl rfl ?_
  refine VB.aload_n (t := 9) hc dX9_init_14 rfl rfl ?_
  refine VB.iconst hc dX9_init_15 ?_
  refine VB.put0 (a := 35) (ty := .int) (k := 9) (i := 0) (j := 4) hc fb_X9_18 gp_X9_4 rfl rfl rfl rfl rfl ⟨by decide, by decide⟩ (by decide) (by decide) (hz _) dX9_init_16 rfl rfl ?_
  refine VB.aload_n (t := 9) hc dX9_init_19 rfl rfl ?_
  refine VB.iconst hc dX9_init_20 ?_
  refine VB.put0 (a := 35) (ty := .int) (k := 9) (i := 0) (j := 5) hc fb_X9_21 gp_X9_5 rfl rfl rfl rfl rfl ⟨by decide, by decide⟩ (by decide) (by decide) (hz _) dX9_init_21 rfl rfl ?_
  refine VB.aload_n (t := 9) hc dX9_init_24 rfl rfl ?_
  refine VB.iconst hc dX9_init_25 ?_
  refine VB.put0 (a := 35) (ty := .int) (k := 9) (i := 0) (j := 6) hc fb_X9_24 gp_X9_6 rfl rfl rfl rfl rfl ⟨by decide, by decide⟩ (by decide) (by decide) (hz _) dX9_init_26 rfl rfl ?_
  refine VB.aload_n (t := 9) hc dX9_init_29 rfl rfl ?_
  refine VB.aload_n (t := 45) hc dX9_init_30 rfl rfl ?_
  refine VB.putR (k := 9) (i := 0) (r := (45, some 0)) hc hin fb_X9_27 rfl ff_X9_0 rfl rfl rfl rfl rfl rfl ⟨by decide, by decide⟩ (by decide) dX9_init_31 ?_
  refine VB.aload_n (t := 9) hc dX9_init_34 rfl rfl ?_
  refine VB.aload_n (t := 8) hc dX9_init_35 rfl rfl ?_
  refine VB.putR (k := 9) (i := 0) (r := (8, some 2)) hc hin fb_X9_31 rfl ff_X9_1 rfl rfl rfl rfl rfl rfl ⟨by decide, by decide⟩ (by decide) dX9_init_36 ?_
  refine VB.shut (k := 9) (i := 0) ⟨by decide, by decide⟩ (by decide) rfl rfl ?_
  exact VB.ret (as := []) hc hr dX9_init_39
theorem cbX3 (l : Launch) (G : GG) (o : Nat → Nat → Bool) (h : HP) (hz : ∀ j, h 3 0 j = 0) (hfl : G.2.2.1 399 = 1 := by assumption) : CB l G yX3_init cX3_init 3 1 0 0 [(13, 0), (18, 1), (16, 10)] (1627, (oset o 1626 (fun _ => false), h)) (1627, (oset o 1626 oT, (up h 3 0 2 (-1)))) := by
  refine CB.of (lo := [(13, 0), (18, 1), (16, 10)]) (by decide) rfl rfl rfl rfl ?_
  intro p e s m args below meth c hc hr hin hx
  have hc : VC G p (rmB 1 0 0) s m args meth c RX3 cX3_init 3 1 := hc
  refine VB.aload_n (t := 3) hc dX3_init_0 rfl rfl ?_
  refine VB.obj hc mb_X3_3 ob2 ob3 rfl rfl dX3_init_1 ?_
  refine VB.aload_n (t := 3) hc dX3_init_4 rfl rfl ?_
  refine VB.iconst hc dX3_init_5 ?_
  refine VB.putG (a := 1626) (ty := .int) (k := 3) (i := 0) (j := 2) hc fb_X3_9 gp_X3_2 rfl rfl rfl rfl rfl ⟨by decide, by decide⟩ (by decide) (by decide) dX3_init_6 rfl rfl ?_
  refine VB.aload_n (t := 3) hc dX3_init_9 rfl rfl ?_
  refine VB.iconst hc dX3_init_10 ?_
  refine VB.put0 (a := 1626) (ty := .int) (k := 3) (i := 0) (j := 3) hc fb_X3_15 gp_X3_3 rfl rfl rfl rfl rfl ⟨by decide, by decide⟩ (by decide) (by decide) (by rw [up_j (by decide)]; exact hz _) dX3_init_11 rfl rfl ?_
  refine VB.aload_n (t := 3) hc dX3_init_14 rfl rfl ?_
  refine VB.aload_n (t := 8) hc dX3_init_15 rfl rfl ?_
  refine VB.putR (k := 3) (i := 0) (r := (8, some 1)) hc hin fb_X3_18 rfl ff_X3_0 rfl rfl rfl rfl rfl rfl ⟨by decide, by decide⟩ (by decide) dX3_init_16 ?_
  refine VB.aload_n (t := 3) hc dX3_init_19 rfl rfl ?_
  refine VB.aload_n (t := 6) hc dX3_init_20 rfl rfl ?_
  refine VB.putR (k := 3) (i := 0) (r := (6, some 10)) hc hin fb_X3_22 rfl ff_X3_1 rfl rfl rfl rfl rfl rfl ⟨by decide, by decide⟩ (by decide) dX3_init_21 ?_
  refine VB.shut (k := 3) (i := 0) ⟨by decide, by decide⟩ (by decide) rfl rfl ?_
  exact VB.ret (as := []) hc hr dX3_init_24
theorem cbX2 (l : Launch) (G : GG) (o : Nat → Nat → Bool) (h : HP) (hz : ∀ j, h 2 0 j = 0) (hfl : G.2.2.1 399 = 1 := by assumption) : CB l G yX2_init cX2_init 4 1 1 220 [(12, 0), (18, 1), (16, 10), (16, 12)] (1628, (oset o 1627 (fun _ => false), h)) (1629, (oset o 1627 oT, h)) := by
  refine CB.of (lo := [(12, 0), (18, 1), (16, 10), (16, 12)]) (by decide) rfl rfl rfl rfl ?_
  intro p e s m args below meth c hc hr hin hx
  have hc : VC G p (rmB 1 1 220) s m args meth c RX2 cX2_init 4 1 := hc
  refine VB.aload_n (t := 2) hc dX2_init_0 rfl rfl ?_
  refine VB.obj hc mb_X2_3 ob2 ob3 rfl rfl dX2_init_1 ?_
  refine VB.aload_n (t := 2) hc dX2_init_4 rfl rfl ?_
  refine VB.sipush hc dX2_init_5 rfl ?_
  refine VB.newaI (k := 20) (i := 0) (N := 220) hc abI rfl rfl rfl rfl ⟨by decide, by decide⟩ ⟨Nat.le_of_ble_eq_true rfl, Nat.le_of_ble_eq_true rfl⟩ dX2_init_8 ?_
  refine VB.putR (k := 2) (i := 0) (r := (20, none)) hc hin fb_X2_11 rfl ff_X2_3 rfl rfl rfl rfl rfl rfl ⟨by decide, by decide⟩ (by decide) dX2_init_10 ?_
  refine VB.aload_n (t := 2) hc dX2_init_13 rfl rfl ?_
  refine VB.aload_n (t := 8) hc dX2_init_14 rfl rfl ?_
  refine VB.putR (k := 2) (i := 0) (r := (8, some 1)) hc hin fb_X2_15 rfl ff_X2_0 rfl rfl rfl rfl rfl rfl ⟨by decide, by decide⟩ (by decide) dX2_init_15 ?_
  refine VB.aload_n (t := 2) hc dX2_init_18 rfl rfl ?_
  refine VB.aload_n (t := 6) hc dX2_init_19 rfl rfl ?_
  refine VB.putR (k := 2) (i := 0) (r := (6, some 10)) hc hin fb_X2_19 rfl ff_X2_1 rfl rfl rfl rfl rfl rfl ⟨by decide, by decide⟩ (by decide) dX2_init_20 ?_
  refine VB.aload_n (t := 2) hc dX2_init_23 rfl rfl ?_
  refine VB.aload_n (t := 6) hc dX2_init_24 rfl rfl ?_
  refine VB.putR (k := 2) (i := 0) (r := (6, some 12)) hc hin fb_X2_23 rfl ff_X2_2 rfl rfl rfl rfl rfl rfl ⟨by decide, by decide⟩ (by decide) dX2_init_25 ?_
  refine VB.shut (k := 2) (i := 0) ⟨by decide, by decide⟩ (by decide) rfl rfl ?_
  exact VB.ret (as := []) hc hr dX2_init_28
theorem cbX4 (l : Launch) (G : GG) (o : Nat → Nat → Bool) (h : HP) (hz : ∀ j, h 4 0 j = 0) (hfl : G.2.2.1 399 = 1 := by assumption) : CB l G yX4_init cX4_init 5 1 2 1548 [(14, 0), (18, 1), (16, 10), (16, 12), (17, 5)] (1630, (oset o 1629 (fun _ => false), h)) (1632, (oset o 1629 oT, (up h 4 0 5 (-1)))) := by
  refine CB.of (lo := [(14, 0), (18, 1), (16, 10), (16, 12), (17, 5)]) (by decide) rfl rfl rfl rfl ?_
  intro p e s m args below meth c hc hr hin hx
  have hc : VC G p (rmB 1 2 1548) s m args meth c RX4 cX4_init 5 1 := hc
  refine VB.aload_n (t := 4) hc dX4_init_0 rfl rfl ?_
  refine VB.obj hc mb_X4_3 ob2 ob3 rfl rfl dX4_init_1 ?_
  refine VB.aload_n (t := 4) hc dX4_init_4 rfl rfl ?_
  refine VB.iconst hc dX4_init_5 ?_
  refine VB.put0 (a := 1629) (ty := .int) (k := 4) (i := 0) (j := 4) hc fb_X4_9 gp_X4_4 rfl rfl rfl rfl rfl ⟨by decide, by decide⟩ (by decide) (by decide) (hz _) dX4_init_6 rfl rfl ?_
  refine VB.aload_n (t := 4) hc dX4_init_9 rfl rfl ?_
  refine VB.iconst hc dX4_init_10 ?_
  refine VB.putG (a := 1629) (ty := .int) (k := 4) (i := 0) (j := 5) hc fb_X4_15 gp_X4_5 rfl rfl rfl rfl rfl ⟨by decide, by decide⟩ (by decide) (by decide) dX4_init_11 rfl rfl ?_
  refine VB.aload_n (t := 4) hc dX4_init_14 rfl rfl ?_
  refine VB.sipush hc dX4_init_15 rfl ?_
  refine VB.newaI (k := 21) (i := 0) (N := 1536) hc abI rfl rfl rfl rfl ⟨by decide, by decide⟩ ⟨Nat.le_of_ble_eq_true rfl, Nat.le_of_ble_eq_true rfl⟩ dX4_init_18 ?_
  refine VB.putR (k := 4) (i := 0) (r := (21, none)) hc hin fb_X4_18 rfl ff_X4_6 rfl rfl rfl rfl rfl rfl ⟨by decide, by decide⟩ (by decide) dX4_init_20 ?_
  refine VB.aload_n (t := 4) hc dX4_init_23 rfl rfl ?_
  refine VB.bipush hc dX4_init_24 rfl ?_
  refine VB.newaI (k := 22) (i := 0) (N := 12) hc abI rfl rfl rfl rfl ⟨by decide, by decide⟩ ⟨Nat.le_of_ble_eq_true rfl, Nat.le_of_ble_eq_true rfl⟩ dX4_init_26 ?_
  refine VB.putR (k := 4) (i := 0) (r := (22, none)) hc hin fb_X4_22 rfl ff_X4_7 rfl rfl rfl rfl rfl rfl ⟨by decide, by decide⟩ (by decide) dX4_init_28 ?_
  refine VB.aload_n (t := 4) hc dX4_init_31 rfl rfl ?_
  refine VB.aload_n (t := 8) hc dX4_init_32 rfl rfl ?_
  refine VB.putR (k := 4) (i := 0) (r := (8, some 1)) hc hin fb_X4_25 rfl ff_X4_0 rfl rfl rfl rfl rfl rfl ⟨by decide, by decide⟩ (by decide) dX4_init_33 ?_
  refine VB.aload_n (t := 4) hc dX4_init_36 rfl rfl ?_
  refine VB.aload_n (t := 6) hc dX4_init_37 rfl rfl ?_
  refine VB.putR (k := 4) (i := 0) (r := (6, some 10)) hc hin fb_X4_29 rfl ff_X4_1 rfl rfl rfl rfl rfl rfl ⟨by decide, by decide⟩ (by decide) dX4_init_38 ?_
  refine VB.aload_n (t := 4) hc dX4_init_41 rfl rfl ?_
  refine VB.aload_n (t := 6) hc dX4_init_42 rfl rfl ?_
  refine VB.putR (k := 4) (i := 0) (r := (6, some 12)) hc hin fb_X4_33 rfl ff_X4_2 rfl rfl rfl rfl rfl rfl ⟨by decide, by decide⟩ (by decide) dX4_init_43 ?_
  refine VB.aload_n (t := 4) hc dX4_init_46 rfl rfl ?_
  refine VB.aload (t := 7) hc dX4_init_47 rfl ?_
  refine VB.putR (k := 4) (i := 0) (r := (7, some 5)) hc hin fb_X4_36 rfl ff_X4_3 rfl rfl rfl rfl rfl rfl ⟨by decide, by decide⟩ (by decide) dX4_init_49 ?_
  refine VB.shut (k := 4) (i := 0) ⟨by decide, by decide⟩ (by decide) rfl rfl ?_
  exact VB.ret (as := []) hc hr dX4_init_52
theorem cbX0 (l : Launch) (G : GG) (o : Nat → Nat → Bool) (h : HP) (hz : ∀ j, h 0 0 j = 0) (hfl : G.2.2.1 399 = 1 := by assumption) : CB l G yX0_init cX0_init 4 1 0 0 [(10, 0), (18, 1), (16, 10), (16, 12)] (1633, (oset o 1632 (fun _ => false), h)) (1633, (oset o 1632 oT, h)) := by
  refine CB.of (lo := [(10, 0), (18, 1), (16, 10), (16, 12)]) (by decide) rfl rfl rfl rfl ?_
  intro p e s m args below meth c hc hr hin hx
  have hc : VC G p (rmB 1 0 0) s m args meth c RX0 cX0_init 4 1 := hc
  refine VB.aload_n (t := 0) hc dX0_init_0 rfl rfl ?_
  refine VB.obj hc mb_X0_3 ob2 ob3 rfl rfl dX0_init_1 ?_
  refine VB.aload_n (t := 0) hc dX0_init_4 rfl rfl ?_
  refine VB.iconst hc dX0_init_5 ?_
  refine VB.put0 (a := 1632) (ty := .int) (k := 0) (i := 0) (j := 3) hc fb_X0_9 gp_X0_3 rfl rfl rfl rfl rfl ⟨by decide, by decide⟩ (by decide) (by decide) (hz _) dX0_init_6 rfl rfl ?_
  refine VB.aload_n (t := 0) hc dX0_init_9 rfl rfl ?_
  refine VB.aload_n (t := 8) hc dX0_init_10 rfl rfl ?_
  refine VB.putR (k := 0) (i := 0) (r := (8, some 1)) hc hin fb_X0_15 rfl ff_X0_0 rfl rfl rfl rfl rfl rfl ⟨by decide, by decide⟩ (by decide) dX0_init_11 ?_
  refine VB.aload_n (t := 0) hc dX0_init_14 rfl rfl ?_
  refine VB.aload_n (t := 6) hc dX0_init_15 rfl rfl ?_
  refine VB.putR (k := 0) (i := 0) (r := (6, some 10)) hc hin fb_X0_19 rfl ff_X0_1 rfl rfl rfl rfl rfl rfl ⟨by decide, by decide⟩ (by decide) dX0_init_16 ?_
  refine VB.aload_n (t := 0) hc dX0_init_19 rfl rfl ?_
  refine VB.aload_n (t := 6) hc dX0_init_20 rfl rfl ?_
  refine VB.putR (k := 0) (i := 0) (r := (6, some 12)) hc hin fb_X0_23 rfl ff_X0_2 rfl rfl rfl rfl rfl rfl ⟨by decide, by decide⟩ (by decide) dX0_init_21 ?_
  refine VB.shut (k := 0) (i := 0) ⟨by decide, by decide⟩ (by decide) rfl rfl ?_
  exact VB.ret (as := []) hc hr dX0_init_24
theorem cbX10 (l : Launch) (G : GG) (o : Nat → Nat → Bool) (h : HP) (hz : ∀ j, h 10 0 j = 0) (hfl : G.2.2.1 399 = 1 := by assumption) : CB l G yX10_init cX10_init 1 1 1 96 [(20, 0)] (1634, (oset o 1633 (fun _ => false), h)) (1635, (oset o 1633 oT, h)) := by
  refine CB.of (lo := [(20, 0)]) (by decide) rfl rfl rfl rfl ?_
  intro p e s m args below meth c hc hr hin hx
  have hc : VC G p (rmB 1 1 96) s m args meth c RX10 cX10_init 1 1 := hc
  refine VB.aload_n (t := 10) hc dX10_init_0 rfl rfl ?_
  refine VB.obj hc mb_X10_3 ob2 ob3 rfl rfl dX10_init_1 ?_
  refine VB.aload_n (t := 10) hc dX10_init_4 rfl rfl ?_
  refine VB.bipush hc dX10_init_5 rfl ?_
  refine VB.newaI (k := 44) (i := 0) (N := 96) hc abI rfl rfl rfl rfl ⟨by decide, by decide⟩ ⟨Nat.le_of_ble_eq_true rfl, Nat.le_of_ble_eq_true rfl⟩ dX10_init_7 ?_
  refine VB.putR (k := 10) (i := 0) (r := (44, none)) hc hin fb_X10_11 rfl ff_X10_0 rfl rfl rfl rfl rfl rfl ⟨by decide, by decide⟩ (by decide) dX10_init_9 ?_
  refine VB.aload_n (t := 10) hc dX10_init_12 rfl rfl ?_
  refine VB.iconst hc dX10_init_13 ?_
  refine VB.put0 (a := 1633) (ty := .int) (k := 10) (i := 0) (j := 1) hc fb_X10_15 gp_X10_1 rfl rfl rfl rfl rfl ⟨by decide, by decide⟩ (by decide) (by decide) (hz _) dX10_init_14 rfl rfl ?_
  refine VB.shut (k := 10) (i := 0) ⟨by decide, by decide⟩ (by decide) rfl rfl ?_
  exact VB.ret (as := []) hc hr dX10_init_17
theorem cbX11 (l : Launch) (G : GG) (o : Nat → Nat → Bool) (h : HP) (hz : ∀ j, h 11 0 j = 0) (hfl : G.2.2.1 399 = 1 := by assumption) : CB l G yX11_init cX11_init 1 4 1634 245217 [(21, 0)] (1, (oset o 0 (fun _ => false), h)) (1635, (oset o 0 oT, (up (up (up (hist (up (hist (up (up h 11 0 2 (-1)) 6 10 5 (-1)) 20 40) 6 11 5 (-1)) 60 40) 6 12 5 (-1)) 3 0 2 (-1)) 4 0 5 (-1)))) := by
  refine CB.of (lo := [(21, 0)]) (by decide) rfl rfl rfl rfl ?_
  intro p e s m args below meth c hc hr hin hx
  have hc : VC G p (rmB 4 1634 245217) s m args meth c RX11 cX11_init 1 4 := hc
  refine VB.aload_n (t := 11) hc dX11_init_0 rfl rfl ?_
  refine VB.obj hc mb_X11_3 ob2 ob3 rfl rfl dX11_init_1 ?_
  refine VB.aload_n (t := 11) hc dX11_init_4 rfl rfl ?_
  refine VB.sipush hc dX11_init_5 rfl ?_
  refine VB.newaI (k := 45) (i := 0) (N := 700) hc abI rfl rfl rfl rfl ⟨by decide, by decide⟩ ⟨Nat.le_of_ble_eq_true rfl, Nat.le_of_ble_eq_true rfl⟩ dX11_init_8 ?_
  refine VB.putR (k := 11) (i := 0) (r := (45, none)) hc hin fb_X11_9 rfl ff_X11_0 rfl rfl rfl rfl rfl rfl ⟨by decide, by decide⟩ (by decide) dX11_init_10 ?_
  refine VB.aload_n (t := 11) hc dX11_init_13 rfl rfl ?_
  refine VB.iconst hc dX11_init_14 ?_
  refine VB.put0 (a := 0) (ty := .int) (k := 11) (i := 0) (j := 1) hc fb_X11_13 gp_X11_1 rfl rfl rfl rfl rfl ⟨by decide, by decide⟩ (by decide) (by decide) (hz _) dX11_init_15 rfl rfl ?_
  refine VB.aload_n (t := 11) hc dX11_init_18 rfl rfl ?_
  refine VB.iconst hc dX11_init_19 ?_
  refine VB.putG (a := 0) (ty := .int) (k := 11) (i := 0) (j := 2) hc fb_X11_17 gp_X11_2 rfl rfl rfl rfl rfl ⟨by decide, by decide⟩ (by decide) (by decide) dX11_init_20 rfl rfl ?_
  refine VB.aload_n (t := 11) hc dX11_init_23 rfl rfl ?_
  refine VB.iconst hc dX11_init_24 ?_
  refine VB.newaI (k := 46) (i := 0) (N := 3) hc abI rfl rfl rfl rfl ⟨by decide, by decide⟩ ⟨Nat.le_of_ble_eq_true rfl, Nat.le_of_ble_eq_true rfl⟩ dX11_init_25 ?_
  refine VB.putR (k := 11) (i := 0) (r := (46, none)) hc hin fb_X11_20 rfl ff_X11_3 rfl rfl rfl rfl rfl rfl ⟨by decide, by decide⟩ (by decide) dX11_init_27 ?_
  refine VB.aload_n (t := 11) hc dX11_init_30 rfl rfl ?_
  refine VB.new (ci := 8) (k := 8) (i := 1) (N := 10) hc tyX8 rfl inG_X8 tyX8_ok cb_X11_23 ib_X8 nb_X8 rfl rfl rfl df_X8 ⟨by decide, by decide⟩ ⟨Nat.le_of_ble_eq_true rfl, Nat.le_of_ble_eq_true rfl⟩ dX11_init_31 ?_
  intro hT1 hZ1
  refine VB.dup hc dX11_init_34 (Nat.ne_of_beq_eq_false rfl) ?_
  refine VB.callN (k := 8) (i := 1) hc hx (cbX8_1 l G (oset o 0 (fun x => x == 3 || (fun x => x == 0 || (fun _ => false) x) x)) (up h 11 0 2 (-1)) hZ1) mi_X8_init hx.2.1 rfl rfl rfl rfl rfl ⟨Nat.le_of_ble_eq_true rfl, Nat.le_of_ble_eq_true rfl⟩ rfl dX11_init_35 ?_
  refine VB.drop hT1 ?_
  refine VB.putR (k := 11) (i := 0) (r := (8, some 1)) hc hin fb_X11_26 rfl ff_X11_4 rfl rfl rfl rfl rfl rfl ⟨by decide, by decide⟩ (by decide) dX11_init_38 ?_
  refine VB.aload_n (t := 11) hc dX11_init_41 rfl rfl ?_
  refine VB.new (ci := 8) (k := 8) (i := 2) (N := 10) hc tyX8 rfl inG_X8 tyX8_ok cb_X11_23 ib_X8 nb_X8 rfl rfl rfl df_X8 ⟨by decide, by decide⟩ ⟨Nat.le_of_ble_eq_true rfl, Nat.le_of_ble_eq_true rfl⟩ dX11_init_42 ?_
  intro hT2 hZ2
  refine VB.dup hc dX11_init_45 (Nat.ne_of_beq_eq_false rfl) ?_
  refine VB.callN (k := 8) (i := 2) hc hx (cbX8_2 l G (oset o 0 (fun x => x == 4 || (fun x => x == 3 || (fun x => x == 0 || (fun _ => false) x) x) x)) (up h 11 0 2 (-1)) hZ2) mi_X8_init hx.2.1 rfl rfl rfl rfl rfl ⟨Nat.le_of_ble_eq_true rfl, Nat.le_of_ble_eq_true rfl⟩ rfl dX11_init_46 ?_
  refine VB.drop hT2 ?_
  refine VB.putR (k := 11) (i := 0) (r := (8, some 2)) hc hin fb_X11_30 rfl ff_X11_5 rfl rfl rfl rfl rfl rfl ⟨by decide, by decide⟩ (by decide) dX11_init_49 ?_
  refine VB.aload_n (t := 11) hc dX11_init_52 rfl rfl ?_
  refine VB.new (ci := 9) (k := 9) (i := 0) (N := 7) hc tyX9 rfl inG_X9 tyX9_ok cb_X11_33 ib_X9 nb_X9 rfl rfl rfl df_X9 ⟨by decide, by decide⟩ ⟨Nat.le_of_ble_eq_true rfl, Nat.le_of_ble_eq_true rfl⟩ dX11_init_53 ?_
  intro hT3 hZ3
  refine VB.dup hc dX11_init_56 (Nat.ne_of_beq_eq_false rfl) ?_
  refine VB.aload_n (t := 11) hc dX11_init_57 rfl rfl ?_
  refine VB.getR (a := 0) (k := 11) (i := 0) (k' := 45) (i' := 0) (r := (45, none)) hc fb_X11_9 rfl rfl rfl rfl rfl rfl ⟨by decide, by decide⟩ (by decide) rfl dX11_init_58 ?_
  refine VB.aload_n (t := 11) hc dX11_init_61 rfl rfl ?_
  refine VB.getR (a := 0) (k := 11) (i := 0) (k' := 8) (i' := 2) (r := (8, some 2)) hc fb_X11_30 rfl rfl rfl rfl rfl rfl ⟨by decide, by decide⟩ (by decide) rfl dX11_init_62 ?_
  refine VB.call (k := 9) (i := 0) hc hx (cbX9 l G (oset o 0 (fun x => x == 5 || (fun x => x == 4 || (fun x => x == 3 || (fun x => x == 0 || (fun _ => false) x) x) x) x)) (up h 11 0 2 (-1)) hZ3) mi_X9_init mb_X11_35 rfl rfl rfl rfl rfl ⟨Nat.le_of_ble_eq_true rfl, Nat.le_of_ble_eq_true rfl⟩ rfl dX11_init_65 ?_
  refine VB.drop hT3 ?_
  refine VB.putR (k := 11) (i := 0) (r := (9, some 0)) hc hin fb_X11_38 rfl ff_X11_6 rfl rfl rfl rfl rfl rfl ⟨by decide, by decide⟩ (by decide) dX11_init_68 ?_
  refine VB.aload_n (t := 11) hc dX11_init_71 rfl rfl ?_
  refine VB.new (ci := 6) (k := 6) (i := 10) (N := 18) hc tyX6 rfl inG_X6 tyX6_ok cb_X11_42 ib_X6 nb_X6 rfl rfl rfl df_X6 ⟨by decide, by decide⟩ ⟨Nat.le_of_ble_eq_true rfl, Nat.le_of_ble_eq_true rfl⟩ dX11_init_72 ?_
  intro hT4 hZ4
  refine VB.dup hc dX11_init_75 (Nat.ne_of_beq_eq_false rfl) ?_
  refine VB.aload_n (t := 11) hc dX11_init_76 rfl rfl ?_
  refine VB.getR (a := 0) (k := 11) (i := 0) (k' := 8) (i' := 1) (r := (8, some 1)) hc fb_X11_26 rfl rfl rfl rfl rfl rfl ⟨by decide, by decide⟩ (by decide) rfl dX11_init_77 ?_
  refine VB.call (k := 6) (i := 10) hc hx (cbX6 l G 36 10 (lineAt_10) (by decide) (oset o 0 (fun x => x == 6 || (fun x => x == 5 || (fun x => x == 4 || (fun x => x == 3 || (fun x => x == 0 || (fun _ => false) x) x) x) x) x)) (up h 11 0 2 (-1)) hZ4) mi_X6_init mb_X11_44 rfl rfl rfl rfl rfl ⟨Nat.le_of_ble_eq_true rfl, Nat.le_of_ble_eq_true rfl⟩ rfl dX11_init_80 ?_
  refine VB.drop hT4 ?_
  refine VB.putR (k := 11) (i := 0) (r := (6, some 10)) hc hin fb_X11_47 rfl ff_X11_7 rfl rfl rfl rfl rfl rfl ⟨by decide, by decide⟩ (by decide) dX11_init_83 ?_
  refine VB.aload_n (t := 11) hc dX11_init_86 rfl rfl ?_
  refine VB.new (ci := 5) (k := 5) (i := 3) (N := 3) hc tyX5 rfl inG_X5 tyX5_ok cb_X11_51 ib_X5 nb_X5 rfl rfl rfl df_X5 ⟨by decide, by decide⟩ ⟨Nat.le_of_ble_eq_true rfl, Nat.le_of_ble_eq_true rfl⟩ dX11_init_87 ?_
  intro hT5 hZ5
  refine VB.dup hc dX11_init_90 (Nat.ne_of_beq_eq_false rfl) ?_
  refine VB.aload_n (t := 11) hc dX11_init_91 rfl rfl ?_
  refine VB.getR (a := 0) (k := 11) (i := 0) (k' := 8) (i' := 1) (r := (8, some 1)) hc fb_X11_26 rfl rfl rfl rfl rfl rfl ⟨by decide, by decide⟩ (by decide) rfl dX11_init_92 ?_
  refine VB.call (k := 5) (i := 3) hc hx (cbX5_3 l G (oset o 0 (fun x => x == 7 || (fun x => x == 6 || (fun x => x == 5 || (fun x => x == 4 || (fun x => x == 3 || (fun x => x == 0 || (fun _ => false) x) x) x) x) x) x)) (up (up h 11 0 2 (-1)) 6 10 5 (-1)) hZ5) mi_X5_init mb_X11_53 rfl rfl rfl rfl rfl ⟨Nat.le_of_ble_eq_true rfl, Nat.le_of_ble_eq_true rfl⟩ rfl dX11_init_95 ?_
  refine VB.drop hT5 ?_
  refine VB.putR (k := 11) (i := 0) (r := (5, some 3)) hc hin fb_X11_54 rfl ff_X11_8 rfl rfl rfl rfl rfl rfl ⟨by decide, by decide⟩ (by decide) dX11_init_98 ?_
  refine VB.aload_n (t := 11) hc dX11_init_101 rfl rfl ?_
  refine VB.new (ci := 7) (k := 7) (i := 5) (N := 4) hc tyX7 rfl inG_X7 tyX7_ok cb_X11_58 ib_X7 nb_X7 rfl rfl rfl df_X7 ⟨by decide, by decide⟩ ⟨Nat.le_of_ble_eq_true rfl, Nat.le_of_ble_eq_true rfl⟩ dX11_init_102 ?_
  intro hT6 hZ6
  refine VB.dup hc dX11_init_105 (Nat.ne_of_beq_eq_false rfl) ?_
  refine VB.callN (k := 7) (i := 5) hc hx (cbX7_5 l G (oset o 0 (fun x => x == 8 || (fun x => x == 7 || (fun x => x == 6 || (fun x => x == 5 || (fun x => x == 4 || (fun x => x == 3 || (fun x => x == 0 || (fun _ => false) x) x) x) x) x) x) x)) (hist (up (up h 11 0 2 (-1)) 6 10 5 (-1)) 20 40) hZ6) mi_X7_init hx.2.2.2.2.1 rfl rfl rfl rfl rfl ⟨Nat.le_of_ble_eq_true rfl, Nat.le_of_ble_eq_true rfl⟩ rfl dX11_init_106 ?_
  refine VB.drop hT6 ?_
  refine VB.putR (k := 11) (i := 0) (r := (7, some 5)) hc hin fb_X11_61 rfl ff_X11_9 rfl rfl rfl rfl rfl rfl ⟨by decide, by decide⟩ (by decide) dX11_init_109 ?_
  refine VB.aload_n (t := 11) hc dX11_init_112 rfl rfl ?_
  refine VB.iconst hc dX11_init_113 ?_
  refine VB.put0 (a := 0) (ty := .boolean) (k := 11) (i := 0) (j := 10) hc fb_X11_65 gp_X11_10 rfl rfl rfl rfl rfl ⟨by decide, by decide⟩ (by decide) (by decide) (by rw [hist_k (by decide), up_k (by decide), up_j (by decide)]; exact hz _) dX11_init_114 rfl rfl ?_
  refine VB.aload_n (t := 11) hc dX11_init_117 rfl rfl ?_
  refine VB.new (ci := 6) (k := 6) (i := 11) (N := 18) hc tyX6 rfl inG_X6 tyX6_ok cb_X11_42 ib_X6 nb_X6 rfl rfl rfl df_X6 ⟨by decide, by decide⟩ ⟨Nat.le_of_ble_eq_true rfl, Nat.le_of_ble_eq_true rfl⟩ dX11_init_118 ?_
  intro hT7 hZ7
  refine VB.dup hc dX11_init_121 (Nat.ne_of_beq_eq_false rfl) ?_
  refine VB.aload_n (t := 11) hc dX11_init_122 rfl rfl ?_
  refine VB.getR (a := 0) (k := 11) (i := 0) (k' := 8) (i' := 1) (r := (8, some 1)) hc fb_X11_26 rfl rfl rfl rfl rfl rfl ⟨by decide, by decide⟩ (by decide) rfl dX11_init_123 ?_
  refine VB.call (k := 6) (i := 11) hc hx (cbX6 l G 821 11 (lineAt_11) (by decide) (oset o 0 (fun x => x == 9 || (fun x => x == 8 || (fun x => x == 7 || (fun x => x == 6 || (fun x => x == 5 || (fun x => x == 4 || (fun x => x == 3 || (fun x => x == 0 || (fun _ => false) x) x) x) x) x) x) x) x)) (hist (up (up h 11 0 2 (-1)) 6 10 5 (-1)) 20 40) hZ7) mi_X6_init mb_X11_44 rfl rfl rfl rfl rfl ⟨Nat.le_of_ble_eq_true rfl, Nat.le_of_ble_eq_true rfl⟩ rfl dX11_init_126 ?_
  refine VB.drop hT7 ?_
  refine VB.putR (k := 11) (i := 0) (r := (6, some 11)) hc hin fb_X11_69 rfl ff_X11_11 rfl rfl rfl rfl rfl rfl ⟨by decide, by decide⟩ (by decide) dX11_init_129 ?_
  refine VB.aload_n (t := 11) hc dX11_init_132 rfl rfl ?_
  refine VB.new (ci := 5) (k := 5) (i := 4) (N := 3) hc tyX5 rfl inG_X5 tyX5_ok cb_X11_51 ib_X5 nb_X5 rfl rfl rfl df_X5 ⟨by decide, by decide⟩ ⟨Nat.le_of_ble_eq_true rfl, Nat.le_of_ble_eq_true rfl⟩ dX11_init_133 ?_
  intro hT8 hZ8
  refine VB.dup hc dX11_init_136 (Nat.ne_of_beq_eq_false rfl) ?_
  refine VB.aload_n (t := 11) hc dX11_init_137 rfl rfl ?_
  refine VB.getR (a := 0) (k := 11) (i := 0) (k' := 8) (i' := 1) (r := (8, some 1)) hc fb_X11_26 rfl rfl rfl rfl rfl rfl ⟨by decide, by decide⟩ (by decide) rfl dX11_init_138 ?_
  refine VB.call (k := 5) (i := 4) hc hx (cbX5_4 l G (oset o 0 (fun x => x == 11 || (fun x => x == 9 || (fun x => x == 8 || (fun x => x == 7 || (fun x => x == 6 || (fun x => x == 5 || (fun x => x == 4 || (fun x => x == 3 || (fun x => x == 0 || (fun _ => false) x) x) x) x) x) x) x) x) x)) (up (hist (up (up h 11 0 2 (-1)) 6 10 5 (-1)) 20 40) 6 11 5 (-1)) hZ8) mi_X5_init mb_X11_53 rfl rfl rfl rfl rfl ⟨Nat.le_of_ble_eq_true rfl, Nat.le_of_ble_eq_true rfl⟩ rfl dX11_init_141 ?_
  refine VB.drop hT8 ?_
  refine VB.putR (k := 11) (i := 0) (r := (5, some 4)) hc hin fb_X11_72 rfl ff_X11_12 rfl rfl rfl rfl rfl rfl ⟨by decide, by decide⟩ (by decide) dX11_init_144 ?_
  refine VB.aload_n (t := 11) hc dX11_init_147 rfl rfl ?_
  refine VB.new (ci := 7) (k := 7) (i := 6) (N := 4) hc tyX7 rfl inG_X7 tyX7_ok cb_X11_58 ib_X7 nb_X7 rfl rfl rfl df_X7 ⟨by decide, by decide⟩ ⟨Nat.le_of_ble_eq_true rfl, Nat.le_of_ble_eq_true rfl⟩ dX11_init_148 ?_
  intro hT9 hZ9
  refine VB.dup hc dX11_init_151 (Nat.ne_of_beq_eq_false rfl) ?_
  refine VB.callN (k := 7) (i := 6) hc hx (cbX7_6 l G (oset o 0 (fun x => x == 12 || (fun x => x == 11 || (fun x => x == 9 || (fun x => x == 8 || (fun x => x == 7 || (fun x => x == 6 || (fun x => x == 5 || (fun x => x == 4 || (fun x => x == 3 || (fun x => x == 0 || (fun _ => false) x) x) x) x) x) x) x) x) x) x)) (hist (up (hist (up (up h 11 0 2 (-1)) 6 10 5 (-1)) 20 40) 6 11 5 (-1)) 60 40) hZ9) mi_X7_init hx.2.2.2.2.1 rfl rfl rfl rfl rfl ⟨Nat.le_of_ble_eq_true rfl, Nat.le_of_ble_eq_true rfl⟩ rfl dX11_init_152 ?_
  refine VB.drop hT9 ?_
  refine VB.putR (k := 11) (i := 0) (r := (7, some 6)) hc hin fb_X11_75 rfl ff_X11_13 rfl rfl rfl rfl rfl rfl ⟨by decide, by decide⟩ (by decide) dX11_init_155 ?_
  refine VB.aload_n (t := 11) hc dX11_init_158 rfl rfl ?_
  refine VB.iconst hc dX11_init_159 ?_
  refine VB.newaI (k := 47) (i := 0) (N := 3) hc abI rfl rfl rfl rfl ⟨by decide, by decide⟩ ⟨Nat.le_of_ble_eq_true rfl, Nat.le_of_ble_eq_true rfl⟩ dX11_init_160 ?_
  refine VB.putR (k := 11) (i := 0) (r := (47, none)) hc hin fb_X11_78 rfl ff_X11_14 rfl rfl rfl rfl rfl rfl ⟨by decide, by decide⟩ (by decide) dX11_init_162 ?_
  refine VB.aload_n (t := 11) hc dX11_init_165 rfl rfl ?_
  refine VB.new (ci := 6) (k := 6) (i := 12) (N := 18) hc tyX6 rfl inG_X6 tyX6_ok cb_X11_42 ib_X6 nb_X6 rfl rfl rfl df_X6 ⟨by decide, by decide⟩ ⟨Nat.le_of_ble_eq_true rfl, Nat.le_of_ble_eq_true rfl⟩ dX11_init_166 ?_
  intro hT10 hZ10
  refine VB.dup hc dX11_init_169 (Nat.ne_of_beq_eq_false rfl) ?_
  refine VB.aload_n (t := 11) hc dX11_init_170 rfl rfl ?_
  refine VB.getR (a := 0) (k := 11) (i := 0) (k' := 8) (i' := 1) (r := (8, some 1)) hc fb_X11_26 rfl rfl rfl rfl rfl rfl ⟨by decide, by decide⟩ (by decide) rfl dX11_init_171 ?_
  refine VB.call (k := 6) (i := 12) hc hx (cbX6 l G 1607 12 (lineAt_12) (by decide) (oset o 0 (fun x => x == 14 || (fun x => x == 13 || (fun x => x == 12 || (fun x => x == 11 || (fun x => x == 9 || (fun x => x == 8 || (fun x => x == 7 || (fun x => x == 6 || (fun x => x == 5 || (fun x => x == 4 || (fun x => x == 3 || (fun x => x == 0 || (fun _ => false) x) x) x) x) x) x) x) x) x) x) x) x)) (hist (up (hist (up (up h 11 0 2 (-1)) 6 10 5 (-1)) 20 40) 6 11 5 (-1)) 60 40) hZ10) mi_X6_init mb_X11_44 rfl rfl rfl rfl rfl ⟨Nat.le_of_ble_eq_true rfl, Nat.le_of_ble_eq_true rfl⟩ rfl dX11_init_174 ?_
  refine VB.drop hT10 ?_
  refine VB.putR (k := 11) (i := 0) (r := (6, some 12)) hc hin fb_X11_81 rfl ff_X11_15 rfl rfl rfl rfl rfl rfl ⟨by decide, by decide⟩ (by decide) dX11_init_177 ?_
  refine VB.aload_n (t := 11) hc dX11_init_180 rfl rfl ?_
  refine VB.new (ci := 3) (k := 3) (i := 0) (N := 4) hc tyX3 rfl inG_X3 tyX3_ok cb_X11_84 ib_X3 nb_X3 rfl rfl rfl df_X3 ⟨by decide, by decide⟩ ⟨Nat.le_of_ble_eq_true rfl, Nat.le_of_ble_eq_true rfl⟩ dX11_init_181 ?_
  intro hT11 hZ11
  refine VB.dup hc dX11_init_184 (Nat.ne_of_beq_eq_false rfl) ?_
  refine VB.aload_n (t := 11) hc dX11_init_185 rfl rfl ?_
  refine VB.getR (a := 0) (k := 11) (i := 0) (k' := 8) (i' := 1) (r := (8, some 1)) hc fb_X11_26 rfl rfl rfl rfl rfl rfl ⟨by decide, by decide⟩ (by decide) rfl dX11_init_186 ?_
  refine VB.aload_n (t := 11) hc dX11_init_189 rfl rfl ?_
  refine VB.getR (a := 0) (k := 11) (i := 0) (k' := 6) (i' := 10) (r := (6, some 10)) hc fb_X11_47 rfl rfl rfl rfl rfl rfl ⟨by decide, by decide⟩ (by decide) rfl dX11_init_190 ?_
  refine VB.call (k := 3) (i := 0) hc hx (cbX3 l G (oset o 0 (fun x => x == 15 || (fun x => x == 14 || (fun x => x == 13 || (fun x => x == 12 || (fun x => x == 11 || (fun x => x == 9 || (fun x => x == 8 || (fun x => x == 7 || (fun x => x == 6 || (fun x => x == 5 || (fun x => x == 4 || (fun x => x == 3 || (fun x => x == 0 || (fun _ => false) x) x) x) x) x) x) x) x) x) x) x) x) x)) (up (hist (up (hist (up (up h 11 0 2 (-1)) 6 10 5 (-1)) 20 40) 6 11 5 (-1)) 60 40) 6 12 5 (-1)) hZ11) mi_X3_init mb_X11_86 rfl rfl rfl rfl rfl ⟨Nat.le_of_ble_eq_true rfl, Nat.le_of_ble_eq_true rfl⟩ rfl dX11_init_193 ?_
  refine VB.drop hT11 ?_
  refine VB.putR (k := 11) (i := 0) (r := (3, some 0)) hc hin fb_X11_89 rfl ff_X11_16 rfl rfl rfl rfl rfl rfl ⟨by decide, by decide⟩ (by decide) dX11_init_196 ?_
  refine VB.aload_n (t := 11) hc dX11_init_199 rfl rfl ?_
  refine VB.new (ci := 2) (k := 2) (i := 0) (N := 4) hc tyX2 rfl inG_X2 tyX2_ok cb_X11_93 ib_X2 nb_X2 rfl rfl rfl df_X2 ⟨by decide, by decide⟩ ⟨Nat.le_of_ble_eq_true rfl, Nat.le_of_ble_eq_true rfl⟩ dX11_init_200 ?_
  intro hT12 hZ12
  refine VB.dup hc dX11_init_203 (Nat.ne_of_beq_eq_false rfl) ?_
  refine VB.aload_n (t := 11) hc dX11_init_204 rfl rfl ?_
  refine VB.getR (a := 0) (k := 11) (i := 0) (k' := 8) (i' := 1) (r := (8, some 1)) hc fb_X11_26 rfl rfl rfl rfl rfl rfl ⟨by decide, by decide⟩ (by decide) rfl dX11_init_205 ?_
  refine VB.aload_n (t := 11) hc dX11_init_208 rfl rfl ?_
  refine VB.getR (a := 0) (k := 11) (i := 0) (k' := 6) (i' := 10) (r := (6, some 10)) hc fb_X11_47 rfl rfl rfl rfl rfl rfl ⟨by decide, by decide⟩ (by decide) rfl dX11_init_209 ?_
  refine VB.aload_n (t := 11) hc dX11_init_212 rfl rfl ?_
  refine VB.getR (a := 0) (k := 11) (i := 0) (k' := 6) (i' := 12) (r := (6, some 12)) hc fb_X11_81 rfl rfl rfl rfl rfl rfl ⟨by decide, by decide⟩ (by decide) rfl dX11_init_213 ?_
  refine VB.call (k := 2) (i := 0) hc hx (cbX2 l G (oset o 0 (fun x => x == 16 || (fun x => x == 15 || (fun x => x == 14 || (fun x => x == 13 || (fun x => x == 12 || (fun x => x == 11 || (fun x => x == 9 || (fun x => x == 8 || (fun x => x == 7 || (fun x => x == 6 || (fun x => x == 5 || (fun x => x == 4 || (fun x => x == 3 || (fun x => x == 0 || (fun _ => false) x) x) x) x) x) x) x) x) x) x) x) x) x) x)) (up (up (hist (up (hist (up (up h 11 0 2 (-1)) 6 10 5 (-1)) 20 40) 6 11 5 (-1)) 60 40) 6 12 5 (-1)) 3 0 2 (-1)) hZ12) mi_X2_init mb_X11_95 rfl rfl rfl rfl rfl ⟨Nat.le_of_ble_eq_true rfl, Nat.le_of_ble_eq_true rfl⟩ rfl dX11_init_216 ?_
  refine VB.drop hT12 ?_
  refine VB.putR (k := 11) (i := 0) (r := (2, some 0)) hc hin fb_X11_98 rfl ff_X11_17 rfl rfl rfl rfl rfl rfl ⟨by decide, by decide⟩ (by decide) dX11_init_219 ?_
  refine VB.aload_n (t := 11) hc dX11_init_222 rfl rfl ?_
  refine VB.new (ci := 4) (k := 4) (i := 0) (N := 8) hc tyX4 rfl inG_X4 tyX4_ok cb_X11_102 ib_X4 nb_X4 rfl rfl rfl df_X4 ⟨by decide, by decide⟩ ⟨Nat.le_of_ble_eq_true rfl, Nat.le_of_ble_eq_true rfl⟩ dX11_init_223 ?_
  intro hT13 hZ13
  refine VB.dup hc dX11_init_226 (Nat.ne_of_beq_eq_false rfl) ?_
  refine VB.aload_n (t := 11) hc dX11_init_227 rfl rfl ?_
  refine VB.getR (a := 0) (k := 11) (i := 0) (k' := 8) (i' := 1) (r := (8, some 1)) hc fb_X11_26 rfl rfl rfl rfl rfl rfl ⟨by decide, by decide⟩ (by decide) rfl dX11_init_228 ?_
  refine VB.aload_n (t := 11) hc dX11_init_231 rfl rfl ?_
  refine VB.getR (a := 0) (k := 11) (i := 0) (k' := 6) (i' := 10) (r := (6, some 10)) hc fb_X11_47 rfl rfl rfl rfl rfl rfl ⟨by decide, by decide⟩ (by decide) rfl dX11_init_232 ?_
  refine VB.aload_n (t := 11) hc dX11_init_235 rfl rfl ?_
  refine VB.getR (a := 0) (k := 11) (i := 0) (k' := 6) (i' := 12) (r := (6, some 12)) hc fb_X11_81 rfl rfl rfl rfl rfl rfl ⟨by decide, by decide⟩ (by decide) rfl dX11_init_236 ?_
  refine VB.aload_n (t := 11) hc dX11_init_239 rfl rfl ?_
  refine VB.getR (a := 0) (k := 11) (i := 0) (k' := 7) (i' := 5) (r := (7, some 5)) hc fb_X11_61 rfl rfl rfl rfl rfl rfl ⟨by decide, by decide⟩ (by decide) rfl dX11_init_240 ?_
  refine VB.call (k := 4) (i := 0) hc hx (cbX4 l G (oset o 0 (fun x => x == 17 || (fun x => x == 16 || (fun x => x == 15 || (fun x => x == 14 || (fun x => x == 13 || (fun x => x == 12 || (fun x => x == 11 || (fun x => x == 9 || (fun x => x == 8 || (fun x => x == 7 || (fun x => x == 6 || (fun x => x == 5 || (fun x => x == 4 || (fun x => x == 3 || (fun x => x == 0 || (fun _ => false) x) x) x) x) x) x) x) x) x) x) x) x) x) x) x)) (up (up (hist (up (hist (up (up h 11 0 2 (-1)) 6 10 5 (-1)) 20 40) 6 11 5 (-1)) 60 40) 6 12 5 (-1)) 3 0 2 (-1)) hZ13) mi_X4_init mb_X11_104 rfl rfl rfl rfl rfl ⟨Nat.le_of_ble_eq_true rfl, Nat.le_of_ble_eq_true rfl⟩ rfl dX11_init_243 ?_
  refine VB.drop hT13 ?_
  refine VB.putR (k := 11) (i := 0) (r := (4, some 0)) hc hin fb_X11_107 rfl ff_X11_18 rfl rfl rfl rfl rfl rfl ⟨by decide, by decide⟩ (by decide) dX11_init_246 ?_
  refine VB.aload_n (t := 11) hc dX11_init_249 rfl rfl ?_
  refine VB.new (ci := 0) (k := 0) (i := 0) (N := 4) hc tyX0 rfl inG_X0 tyX0_ok cb_X11_111 ib_X0 nb_X0 rfl rfl rfl df_X0 ⟨by decide, by decide⟩ ⟨Nat.le_of_ble_eq_true rfl, Nat.le_of_ble_eq_true rfl⟩ dX11_init_250 ?_
  intro hT14 hZ14
  refine VB.dup hc dX11_init_253 (Nat.ne_of_beq_eq_false rfl) ?_
  refine VB.aload_n (t := 11) hc dX11_init_254 rfl rfl ?_
  refine VB.getR (a := 0) (k := 11) (i := 0) (k' := 8) (i' := 1) (r := (8, some 1)) hc fb_X11_26 rfl rfl rfl rfl rfl rfl ⟨by decide, by decide⟩ (by decide) rfl dX11_init_255 ?_
  refine VB.aload_n (t := 11) hc dX11_init_258 rfl rfl ?_
  refine VB.getR (a := 0) (k := 11) (i := 0) (k' := 6) (i' := 10) (r := (6, some 10)) hc fb_X11_47 rfl rfl rfl rfl rfl rfl ⟨by decide, by decide⟩ (by decide) rfl dX11_init_259 ?_
  refine VB.aload_n (t := 11) hc dX11_init_262 rfl rfl ?_
  refine VB.getR (a := 0) (k := 11) (i := 0) (k' := 6) (i' := 12) (r := (6, some 12)) hc fb_X11_81 rfl rfl rfl rfl rfl rfl ⟨by decide, by decide⟩ (by decide) rfl dX11_init_263 ?_
  refine VB.call (k := 0) (i := 0) hc hx (cbX0 l G (oset o 0 (fun x => x == 18 || (fun x => x == 17 || (fun x => x == 16 || (fun x => x == 15 || (fun x => x == 14 || (fun x => x == 13 || (fun x => x == 12 || (fun x => x == 11 || (fun x => x == 9 || (fun x => x == 8 || (fun x => x == 7 || (fun x => x == 6 || (fun x => x == 5 || (fun x => x == 4 || (fun x => x == 3 || (fun x => x == 0 || (fun _ => false) x) x) x) x) x) x) x) x) x) x) x) x) x) x) x) x)) (up (up (up (hist (up (hist (up (up h 11 0 2 (-1)) 6 10 5 (-1)) 20 40) 6 11 5 (-1)) 60 40) 6 12 5 (-1)) 3 0 2 (-1)) 4 0 5 (-1)) hZ14) mi_X0_init mb_X11_113 rfl rfl rfl rfl rfl ⟨Nat.le_of_ble_eq_true rfl, Nat.le_of_ble_eq_true rfl⟩ rfl dX11_init_266 ?_
  refine VB.drop hT14 ?_
  refine VB.putR (k := 11) (i := 0) (r := (0, some 0)) hc hin fb_X11_114 rfl ff_X11_19 rfl rfl rfl rfl rfl rfl ⟨by decide, by decide⟩ (by decide) dX11_init_269 ?_
  refine VB.aload_n (t := 11) hc dX11_init_272 rfl rfl ?_
  refine VB.new (ci := 10) (k := 10) (i := 0) (N := 2) hc tyX10 rfl inG_X10 tyX10_ok cb_X11_118 ib_X10 nb_X10 rfl rfl rfl df_X10 ⟨by decide, by decide⟩ ⟨Nat.le_of_ble_eq_true rfl, Nat.le_of_ble_eq_true rfl⟩ dX11_init_273 ?_
  intro hT15 hZ15
  refine VB.dup hc dX11_init_276 (Nat.ne_of_beq_eq_false rfl) ?_
  refine VB.callN (k := 10) (i := 0) hc hx (cbX10 l G (oset o 0 (fun x => x == 19 || (fun x => x == 18 || (fun x => x == 17 || (fun x => x == 16 || (fun x => x == 15 || (fun x => x == 14 || (fun x => x == 13 || (fun x => x == 12 || (fun x => x == 11 || (fun x => x == 9 || (fun x => x == 8 || (fun x => x == 7 || (fun x => x == 6 || (fun x => x == 5 || (fun x => x == 4 || (fun x => x == 3 || (fun x => x == 0 || (fun _ => false) x) x) x) x) x) x) x) x) x) x) x) x) x) x) x) x) x)) (up (up (up (hist (up (hist (up (up h 11 0 2 (-1)) 6 10 5 (-1)) 20 40) 6 11 5 (-1)) 60 40) 6 12 5 (-1)) 3 0 2 (-1)) 4 0 5 (-1)) hZ15) mi_X10_init hx.2.2.2.2.2 rfl rfl rfl rfl rfl ⟨Nat.le_of_ble_eq_true rfl, Nat.le_of_ble_eq_true rfl⟩ rfl dX11_init_277 ?_
  refine VB.drop hT15 ?_
  refine VB.putR (k := 11) (i := 0) (r := (10, some 0)) hc hin fb_X11_121 rfl ff_X11_20 rfl rfl rfl rfl rfl rfl ⟨by decide, by decide⟩ (by decide) dX11_init_280 ?_
  refine VB.shut (k := 11) (i := 0) ⟨by decide, by decide⟩ (by decide) rfl rfl ?_
  exact VB.ret (as := []) hc hr dX11_init_283
