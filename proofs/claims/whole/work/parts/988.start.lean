/-! from the entry of the law to its loop -/
theorem cb_L_8 : Cond.classLink RL 8 RX11 ∈ tblG := tin 125 (by decide +kernel) (by decide)
theorem cb_L_84 : Cond.classLink RL 84 RX12 ∈ tblG := tin 1388 (by decide +kernel) (by decide)
theorem mb_L_83 : Cond.methodLink RL 83 yX11_init ∈ tblG := tin 127 (by decide +kernel) (by decide)
theorem mb_L_86 : Cond.methodLink RL 86 yX12_init ∈ tblG := tin 1390 (by decide +kernel) (by decide)
theorem nb_X11 : Cond.initialized RX11 ∈ tblG := tin 100 (by decide +kernel) (by decide)
theorem mi_X11_init : MOi yX11_init cX11_init 1 0 := ⟨tin 128 (by decide +kernel) (by decide), nb_X11, tin 129 (by decide +kernel) (by decide), by decide +kernel, by decide +kernel, rfl⟩
theorem nb_X12 : Cond.initialized RX12 ∈ tblG := tin 112 (by decide +kernel) (by decide)
theorem mi_X12_init : MOi yX12_init cX12_init 1 0 := ⟨tin 1391 (by decide +kernel) (by decide), nb_X12, tin 1392 (by decide +kernel) (by decide), by decide +kernel, by decide +kernel, rfl⟩
theorem df_X11 : ∀ j, j < 21 → defaultValue (tyX11 j) = (match kRt 11 j with | none => Value.int 0 | some _ => Value.null) := by
  intro j hj
  exact match j, hj with
  | 0, _ => rfl
  | 1, _ => rfl
  | 2, _ => rfl
  | 3, _ => rfl
  | 4, _ => rfl
  | 5, _ => rfl
  | 6, _ => rfl
  | 7, _ => rfl
  | 8, _ => rfl
  | 9, _ => rfl
  | 10, _ => rfl
  | 11, _ => rfl
  | 12, _ => rfl
  | 13, _ => rfl
  | 14, _ => rfl
  | 15, _ => rfl
  | 16, _ => rfl
  | 17, _ => rfl
  | 18, _ => rfl
  | 19, _ => rfl
  | 20, _ => rfl
  | k + 21, hj => absurd hj (by omega)
theorem df_X12 : ∀ j, j < 59 → defaultValue (tyX12 j) = (match kRt 12 j with | none => Value.int 0 | some _ => Value.null) := by
  intro j hj
  exact match j, hj with
  | 0, _ => rfl
  | 1, _ => rfl
  | 2, _ => rfl
  | 3, _ => rfl
  | 4, _ => rfl
  | 5, _ => rfl
  | 6, _ => rfl
  | 7, _ => rfl
  | 8, _ => rfl
  | 9, _ => rfl
  | 10, _ => rfl
  | 11, _ => rfl
  | 12, _ => rfl
  | 13, _ => rfl
  | 14, _ => rfl
  | 15, _ => rfl
  | 16, _ => rfl
  | 17, _ => rfl
  | 18, _ => rfl
  | 19, _ => rfl
  | 20, _ => rfl
  | 21, _ => rfl
  | 22, _ => rfl
  | 23, _ => rfl
  | 24, _ => rfl
  | 25, _ => rfl
  | 26, _ => rfl
  | 27, _ => rfl
  | 28, _ => rfl
  | 29, _ => rfl
  | 30, _ => rfl
  | 31, _ => rfl
  | 32, _ => rfl
  | 33, _ => rfl
  | 34, _ => rfl
  | 35, _ => rfl
  | 36, _ => rfl
  | 37, _ => rfl
  | 38, _ => rfl
  | 39, _ => rfl
  | 40, _ => rfl
  | 41, _ => rfl
  | 42, _ => rfl
  | 43, _ => rfl
  | 44, _ => rfl
  | 45, _ => rfl
  | 46, _ => rfl
  | 47, _ => rfl
  | 48, _ => rfl
  | 49, _ => rfl
  | 50, _ => rfl
  | 51, _ => rfl
  | 52, _ => rfl
  | 53, _ => rfl
  | 54, _ => rfl
  | 55, _ => rfl
  | 56, _ => rfl
  | 57, _ => rfl
  | 58, _ => rfl
  | k + 59, hj => absurd hj (by omega)
theorem hist_kj {h : HP} {b : Int} {n k' : Nat} {i' j' : Int} (hk : ¬ (k' = 6 ∧ j' = 5)) : hist h b n k' i' j' = h k' i' j' := by
  induction n with
  | zero => rfl
  | succ n ih => show up _ 6 _ 5 _ k' i' j' = _; rw [up_kj (by omega), ih]
theorem hist_i {h : HP} {b : Int} {n k' : Nat} {i' j' : Int} (hk : i' < b) : hist h b n k' i' j' = h k' i' j' := by
  induction n with
  | zero => rfl
  | succ n ih => show up _ 6 _ 5 _ k' i' j' = _; rw [up_kj (by omega), ih]
def hp0 : HP := fun _ _ _ => 0
def hpF : HP := (up (up (up (up (up (up (up (hist (up (hist (up (up hp0 11 0 2 (-1)) 6 10 5 (-1)) 20 40) 6 11 5 (-1)) 60 40) 6 12 5 (-1)) 3 0 2 (-1)) 4 0 5 (-1)) 12 7 21 (-1)) 12 7 29 (-1)) 12 7 32 (-1)) 56 7 3089 (-1))
theorem hpF_IV : IV hpF 0 := by
  refine first_IV (fun k i j hk => ?_) ?_ ?_ ?_ ?_ ?_ ?_
  · unfold specK at hk
    unfold hpF
    rw [up_kj (by omega), up_kj (by omega), up_kj (by omega), up_kj (by omega), up_kj (by omega), up_kj (by omega), up_kj (by omega), hist_kj (by omega), up_kj (by omega), hist_kj (by omega), up_kj (by omega), up_kj (by omega)]
    rfl
  · unfold hpF
    rw [up_kj (by omega), up_kj (by omega), up_kj (by omega), up_kj (by omega), up_kj (by omega), up_kj (by omega), up_kj (by omega), hist_kj (by omega), up_kj (by omega), hist_kj (by omega), up_kj (by omega), up_eq]
  · unfold hpF
    rw [up_kj (by omega), up_kj (by omega), up_kj (by omega), up_kj (by omega), up_kj (by omega), up_kj (by omega), up_kj (by omega), hist_i (by decide), up_kj (by omega), hist_i (by decide), up_eq]
  · unfold hpF
    rw [up_kj (by omega), up_kj (by omega), up_kj (by omega), up_eq]
  · unfold hpF
    rw [up_kj (by omega), up_kj (by omega), up_eq]
  · unfold hpF
    rw [up_kj (by omega), up_eq]
  · unfold hpF
    rw [up_eq]
theorem VB.toV {G : GG} {p : Program} {l : Launch} {e : Jvm.Env} {R : Room} {s : State} {m : MethodId} {args : Array Value} {below : List Frame} {meth : Method} {c : Code} {Q : State → Prop} {nL pc : Nat} {lo st : List TV} {M n n2 n0 : Nat} {o : Nat → Nat → Bool} {h : HP} (ho : ∀ a, o a = oT) (hM : M = nCell) (hn : n ≤ n0) (hn2 : n2 ≤ 6 * n0) (k : V G p l e R s m args below meth c Q nL pc lo st h n0) : VB G p l e R s m args below meth c Q nL pc lo st (M, (o, h)) n n2 := by
  intro ho' hs hz hw H L ls hL hP hS
  subst hM
  rw [mkB_full ho] at hP
  exact W.widen hn hn2 (k ho' hs H L ls hL hP hS)
theorem law_build {G : GG} {p : Program} {l : Launch} {e : Jvm.Env} {s : State} {m : MethodId} {args : Array Value} {below : List Frame} {meth : Method} {c : Code} {Q : State → Prop} (hc : VL G p s m args meth c) (hx : NX s) (k : V G p l e room_1 s m args below meth c Q 7 23 [(3, 0), (21, 0), (22, 7), (87, 8), (0, 0), (1, 0), (1, 0)] [] hpF 90000) : VB G p l e room_1 s m args below meth c Q 7 0 [(3, 0), (1, 0), (1, 0), (1, 0), (1, 0), (1, 0), (1, 0)] [] (0, ((fun _ => oT), hp0)) 0 0 := by
  refine VB.new (ci := 11) (k := 11) (i := 0) (N := 21) hc tyX11 rfl inG_X11 tyX11_ok cb_L_8 ib_X11 nb_X11 rfl rfl rfl df_X11 ⟨by decide, by decide⟩ ⟨Nat.le_of_ble_eq_true rfl, Nat.le_of_ble_eq_true rfl⟩ dL_law_0 ?_
  intro hT1 hZ1
  refine VB.dup hc dL_law_3 (Nat.ne_of_beq_eq_false rfl) ?_
  refine VB.call (k := 11) (i := 0) hc hx (cbX11 l G (fun _ => oT) hp0 hZ1) mi_X11_init mb_L_83 rfl rfl rfl rfl rfl ⟨Nat.le_of_ble_eq_true rfl, Nat.le_of_ble_eq_true rfl⟩ rfl dL_law_4 ?_
  refine VB.drop hT1 ?_
  refine VB.astore_n (t := 11) hc dL_law_7 rfl rfl rfl ?_
  refine VB.new (ci := 12) (k := 12) (i := 7) (N := 59) hc tyX12 rfl inG_X12 tyX12_ok cb_L_84 ib_X12 nb_X12 rfl rfl rfl df_X12 ⟨by decide, by decide⟩ ⟨Nat.le_of_ble_eq_true rfl, Nat.le_of_ble_eq_true rfl⟩ dL_law_8 ?_
  intro hT2 hZ2
  refine VB.dup hc dL_law_11 (Nat.ne_of_beq_eq_false rfl) ?_
  refine VB.call (k := 12) (i := 7) hc hx (cbX12 l G (fun _ => oT) (up (up (up (hist (up (hist (up (up hp0 11 0 2 (-1)) 6 10 5 (-1)) 20 40) 6 11 5 (-1)) 60 40) 6 12 5 (-1)) 3 0 2 (-1)) 4 0 5 (-1)) hZ2) mi_X12_init mb_L_86 rfl rfl rfl rfl rfl ⟨Nat.le_of_ble_eq_true rfl, Nat.le_of_ble_eq_true rfl⟩ rfl dL_law_12 ?_
  refine VB.drop hT2 ?_
  refine VB.astore_n (t := 12) hc dL_law_15 rfl rfl rfl ?_
  refine VB.iconst hc dL_law_16 ?_
  refine VB.newaJ (k := 77) (i := 8) (N := 1) hc abJ rfl rfl rfl rfl ⟨by decide, by decide⟩ ⟨Nat.le_of_ble_eq_true rfl, Nat.le_of_ble_eq_true rfl⟩ dL_law_17 ?_
  refine VB.astore_n (t := 77) hc dL_law_19 rfl rfl rfl ?_
  refine VB.iconst hc dL_law_20 ?_
  refine VB.istore hc dL_law_21 rfl rfl ?_
  exact VB.toV (fun _ => rfl) rfl (Nat.le_of_ble_eq_true rfl) (Nat.le_of_ble_eq_true rfl) k
