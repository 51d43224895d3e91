/-! rows of rows, stores into them, calls that answer a row -/
theorem setM_5 {G : GG} {a N : Nat} : (setM G a N).2.2.1 305 = a ∧ (setM G a N).2.2.1 405 = 1 := ⟨rfl, rfl⟩
theorem setM_1 {G : GG} {a N j : Nat} (hj : j < N) (hN : N ≤ 10) : (setM G a N).2.2.1 (410 + j) = 1 := by
  show (if 410 + j = 305 then a else if 410 + j = 405 then 1 else if 310 ≤ 410 + j ∧ 410 + j < 310 + N then a + 1 + (410 + j - 310) else if 410 ≤ 410 + j ∧ 410 + j < 410 + N then 1 else G.2.2.1 (410 + j)) = 1
  rw [if_neg (by omega), if_neg (by omega), if_neg (by omega), if_pos (by omega)]
theorem setM_eg {G : GG} {a N : Nat} (hN : N ≤ 10) (hz : ∀ y, 5 ≤ y → y < 40 → G.2.2.1 (400 + y) = 0) : EG G (setM G a N) := by
  refine ⟨rfl, rfl, rfl, fun n h1 h2 => setM_o (by omega) (by omega) (by omega) (by omega), setM_o (by omega) (by omega) (by omega) (by omega), fun y hy he => ?_⟩
  have hy5 : ¬ (5 ≤ y ∧ y < 40) := fun w => by have := hz y w.1 w.2; omega
  rw [setM_o (n := 400 + y) (by omega) (by omega) (by omega) (by omega), setM_o (n := 300 + y) (by omega) (by omega) (by omega) (by omega)]
  exact ⟨he, rfl⟩
theorem setM_sg {G : GG} {a N : Nat} (sg : SG G) (b : Bnd G a) (hN : N ≤ 10) (hz : ∀ y, 5 ≤ y → y < 40 → G.2.2.1 (400 + y) = 0) : SG (setM G a N) := by
  have cases_ : ∀ y, 3 ≤ y → y < 40 → (setM G a N).2.2.1 (400 + y) = 1 → (y < 5 ∧ G.2.2.1 (400 + y) = 1 ∧ (setM G a N).2.2.1 (300 + y) = G.2.2.1 (300 + y)) ∨ (y = 5 ∧ (setM G a N).2.2.1 (300 + y) = a) ∨ (10 ≤ y ∧ y < 10 + N ∧ (setM G a N).2.2.1 (300 + y) = a + 1 + (y - 10)) := fun y y3 y4 he => by
    by_cases c5 : y = 5
    · subst c5; exact Or.inr (Or.inl ⟨rfl, rfl⟩)
    · by_cases c10 : 10 ≤ y ∧ y < 10 + N
      · refine Or.inr (Or.inr ⟨c10.1, c10.2, ?_⟩)
        rw [show 300 + y = 310 + (y - 10) by omega]
        exact setM_a (by omega) hN
      · rw [setM_o (n := 400 + y) (by omega) (by omega) (by omega) (by omega)] at he
        have y5 : y < 5 := by
          rcases Nat.lt_or_ge y 5 with w | w
          · exact w
          · have := hz y w y4; omega
        exact Or.inl ⟨y5, he, setM_o (by omega) (by omega) (by omega) (by omega)⟩
  refine SG_new sg b (setM_eg hN hz) ⟨setM_o (by omega) (by omega) (by omega) (by omega), setM_o (by omega) (by omega) (by omega) (by omega)⟩ (fun y y3 y4 he => ?_) (fun y y' y3 y4 y3' y4' he he' hz2 e => ?_)
  · rcases cases_ y y3 y4 he with ⟨w1, w2, w3⟩ | ⟨w1, w2⟩ | ⟨w1, w2, w3⟩
    · exact Or.inl w2
    · exact Or.inr (by omega)
    · exact Or.inr (by omega)
  · rcases cases_ y y3 y4 he with ⟨w1, w2, w3⟩ | ⟨w1, w2⟩ | ⟨w1, w2, w3⟩
    · have := b.2.2 y y3 y4 w2; omega
    · rcases cases_ y' y3' y4' he' with ⟨v1, v2, v3⟩ | ⟨v1, v2⟩ | ⟨v1, v2, v3⟩
      · have := b.2.2 y' y3' y4' v2; omega
      · omega
      · omega
    · rcases cases_ y' y3' y4' he' with ⟨v1, v2, v3⟩ | ⟨v1, v2⟩ | ⟨v1, v2, v3⟩
      · have := b.2.2 y' y3' y4' v2; omega
      · omega
      · omega
/-- the same but for one cell -/
theorem ext_P2 {G G' : GG} {h : HP} {H H' : Heap} {x0 : Nat} (x : EG G G') (sg : SG G) (hx0 : 3 ≤ x0 ∧ x0 < 40) (he0 : G.2.2.1 (400 + x0) = 1) (hP : va_P G.2.1 vwCl (mkW G h) H) (old : ∀ q, q ≠ G.2.2.1 (300 + x0) → H'[q]? = H[q]?) (o2 : G'.2.2.1 302 = G.2.2.1 302 ∧ G'.2.2.1 402 = G.2.2.1 402)
    (ids : ∀ y, 3 ≤ y → y < 40 → G'.2.2.1 (400 + y) = 1 → (G.2.2.1 (400 + y) = 1 ∧ y ≠ x0 ∧ KeepC G G' y) ∨ va_at G.2.1 vwCl (G'.2.2.1 (300 + y), cellL G' y (h (200 + y) 0)) H') : va_P G'.2.1 vwCl (mkW G' h) H' := by
  have x2 := x.2.1
  have e0 := x.2.2.2.1 0 (by decide) (by decide)
  have e3 := x.2.2.2.1 3 (by decide) (by decide)
  obtain ⟨d1, d2, d3⟩ := sg.2
  have dx := d2 x0 hx0.1 hx0.2 he0
  rw [x2]
  intro i p hp
  have keep : ∀ {j : Nat}, (mkW G h)[j]? = some p → p.1 ≠ G.2.2.1 (300 + x0) → va_at G.2.1 vwCl p H' := fun {j} hj hn => (hP j p hj).kept (old _ hn)
  rcases mkW_in hp with ⟨a1, a2, a3⟩ | ⟨a0, a1, a2, a3, a4, a5⟩ | ⟨a1, y, a2, a3, a4⟩
  · rw [mkO_cong (G' := G') (G := G) x.1 e0 e3, ← mkW_left a1] at a2
    rw [x.1] at a3
    exact keep a2 (by omega)
  · have z2 : G.2.2.1 402 = 1 := by rw [← o2.2]; exact a0
    have eq : mkO (Gq G') (shq h) = mkO (Gq G) (shq h) := by
      refine mkO_cong (G' := Gq G') (G := Gq G) o2.1 ?_ ?_
      · show (if 399 ≤ 0 then 0 else G'.2.2.1 0) = if 399 ≤ 0 then 0 else G.2.2.1 0
        rw [if_neg (by decide), if_neg (by decide), e0]
      · show (if 399 ≤ 3 then 0 else G'.2.2.1 3) = if 399 ≤ 3 then 0 else G.2.2.1 3
        rw [if_neg (by decide), if_neg (by decide), e3]
    rw [eq, ← mkW_mid z2 a3] at a4
    rw [o2.1] at a5
    have := dx.2 z2
    exact keep a4 (by omega)
  · obtain ⟨f1, f2, f3⟩ := ids_at a3
    rcases ids y f2 f1 f3 with ⟨w1, w2, w3⟩ | w
    · obtain ⟨q, hq, -⟩ := mkW_law G h f2 f1 w1
      have ne : G.2.2.1 (300 + y) ≠ G.2.2.1 (300 + x0) := fun e => w2 (d3 y x0 f2 f1 hx0.1 hx0.2 w1 he0 e)
      have h1 := (hP q _ hq).kept (old _ ne)
      have h2 := cellL_keep x w3 h1
      rw [a4, (x.2.2.2.2.2 y (by omega) w1).2]
      exact h2
    · rw [a4]; exact w
def setW (G : GG) (y : Nat) : GG := (G.1, (G.2.1, ((fun n => if n = 500 + y then 1 else G.2.2.1 n), G.2.2.2)))
theorem setW_o {G : GG} {y n : Nat} (h1 : n ≠ 500 + y) : (setW G y).2.2.1 n = G.2.2.1 n := by
  show (if n = 500 + y then 1 else G.2.2.1 n) = _
  rw [if_neg h1]
theorem setW_1 {G : GG} {y : Nat} : (setW G y).2.2.1 (500 + y) = 1 := by
  show (if 500 + y = 500 + y then 1 else G.2.2.1 (500 + y)) = _
  rw [if_pos rfl]
theorem setW_eg {G : GG} {y : Nat} : EG G (setW G y) := by
  refine ⟨rfl, rfl, rfl, fun n h1 h2 => setW_o (by omega), setW_o (by omega), fun w hw he => ?_⟩
  rw [setW_o (n := 400 + w) (by omega), setW_o (n := 300 + w) (by omega)]
  exact ⟨he, rfl⟩
theorem setW_sg {G : GG} {y : Nat} (sg : SG G) : SG (setW G y) := by
  obtain ⟨s1, d1, d2, d3⟩ := sg
  refine ⟨by rw [setW_o (by omega)]; exact s1, fun h2 => ?_, fun w w3 w4 he => ?_, fun w w' w3 w4 w3' w4' he he' e => ?_⟩
  · rw [setW_o (by omega)] at h2; rw [setW_o (by omega)]; exact d1 h2
  · rw [setW_o (by omega)] at he; rw [setW_o (by omega), setW_o (by omega), setW_o (by omega)]; exact d2 w w3 w4 he
  · rw [setW_o (by omega)] at he he'
    rw [setW_o (by omega), setW_o (by omega)] at e
    exact d3 w w' w3 w4 w3' w4' he he' e
theorem asg_rf (vm : Vm) (c : ClassId) : vm.assignable c c = true := by
  show vm.assignableAux (255 + 1) c c = true
  unfold Vm.assignableAux
  rw [beq_self_eq_true, Bool.true_or]
theorem ofI_nat (N : Nat) : Int32.ofInt (N : Int) = Int32.ofNat N := Int32.ofInt_eq_ofNat
section NEW2
variable {G : GG} {p : Program} {l : Launch} {e : Jvm.Env} {R : Room} {s : State} {m : MethodId} {args : Array Value} {below : List Frame} {meth : Method} {c : Code} {Q : State → Prop} {own : String} {cc : ByteArray} {nL d pc : Nat} {lo st : List TV} {h : HP} {n : Nat}
theorem V.newM {N n' idx : Nat} {y : Int} (hc : VC G p R s m args meth c own cc nL d) (sg : SG G) (hm : MC G s) (hN : G.2.2.1 14 = N) (hN6 : N ≤ 6) (hy : (N : Int) = y) (hz : ∀ y, 5 ≤ y → y < 40 → G.2.2.1 (400 + y) = 0) (h5 : ∀ y, 20 ≤ y → y < 40 → G.2.2.1 (500 + y) = 0) (hlo : LiveS G lo) (hst : LiveS G st) (hcl : Cond.classLink own idx ("[" ++ (FieldType.array (.array .int)).toString) ∈ tblG) (hn : n + 1 + N ≤ n' ∧ n' ≤ R.cells ∧ 6 * n' ≤ R.slots) (hd : decode cc pc = .ok (.multianewarray idx 2, 4))
    (k1 : ∀ a, EG G (setM G a N) → SG (setM G a N) → VC (setM G a N) p R s m args meth c own cc nL d → V (setM G a N) p l e R s m args below meth c Q nL (pc + 4) lo ((3, 5) :: st) h n') : V G p l e R s m args below meth c Q nL pc lo ((0, 3) :: (0, y) :: st) h n := by
  intro ho hs H L ls hL hP hS
  have b := Bnd_of hP
  have eg := setM_eg (G := G) (a := H.size) (N := N) (by omega) hz
  have sg' := setM_sg sg b (N := N) (by omega) hz
  have hc' := eg.vc hc sg'.D
  obtain ⟨e1, e2, e3, e4, e5, e6, -⟩ := hc
  obtain ⟨⟨kA, hkA, hkindA⟩, kB, hkB, hkindB⟩ := hm
  have hfc : s.vm.findClass ("[" ++ (FieldType.array (.array .int)).toString) = some (G.2.2.1 6) := (e6.1.2 3 (G.2.2.1 6, .array (.array .int)) rfl).2
  subst hy
  refine W.rows (N := N) e1 e2 e4 (e5 _ hcl) hfc hkA hkindA hkB hkindB (by omega) rfl hd (rest := st.map (cv G)) (by
    show Value.int (Int32.ofInt 3) :: Value.int (Int32.ofInt (N : Int)) :: st.map (cv G) = _
    rw [ofI_nat]
    rfl) (by omega) (by omega) (fun H1 L1 z1 a1 a2 o1 hL1 => ?_)
  refine W.widen (k := n') (n := 6 * n') (by omega) (by omega) ?_
  have hP1 : va_P (setM G H.size N).2.1 vwCl (mkW (setM G H.size N) h) H1 := by
    refine ext_P eg hP o1 ⟨setM_o (by omega) (by omega) (by omega) (by omega), setM_o (by omega) (by omega) (by omega) (by omega)⟩ (fun k hk => rfl) (fun w w3 w4 hw => ?_)
    by_cases c5 : w = 5
    · subst c5
      refine Or.inr ?_
      show H1[H.size]? = some (vp_cell ((setM G H.size N).2.2.1 6) ((setM G H.size N).2.2.1 14, .inr (.inr (.inr (.inr (fun j : Nat => some ((setM G H.size N).2.2.1 (310 + j))))))))
      rw [setM_o (n := 6) (by omega) (by omega) (by omega) (by omega), setM_o (n := 14) (by omega) (by omega) (by omega) (by omega), hN, vp_cell_q, a1]
      congr 1
      exact arrV_cg (fun j hj => by show Value.ref _ = va_rf (some _); rw [setM_a hj (by omega)]; rfl)
    · by_cases c10 : 10 ≤ w ∧ w < 10 + N
      · refine Or.inr ?_
        have ea : (setM G H.size N).2.2.1 (300 + w) = H.size + 1 + (w - 10) := by
          rw [show 300 + w = 310 + (w - 10) by omega]
          exact setM_a (by omega) (by omega)
        have ec : cellL (setM G H.size N) w (h (200 + w) 0) = .inl ((setM G H.size N).2.2.1 5, 3, .inr (.inr (.inr (.inr (slL (setM G H.size N) w))))) := by
          unfold cellL lnL
          rw [if_neg (by omega), if_pos (by omega), if_neg (by omega), if_neg (by omega), if_neg (by omega), if_neg (by omega)]
          rfl
        rw [ea, ec]
        show H1[H.size + 1 + (w - 10)]? = some (vp_cell ((setM G H.size N).2.2.1 5) (3, .inr (.inr (.inr (.inr (slL (setM G H.size N) w))))))
        rw [setM_o (n := 5) (by omega) (by omega) (by omega) (by omega), vp_cell_q, a2 (w - 10) (by omega)]
        congr 1
        exact arrV_cg (fun j hj => by
          unfold slL
          rw [setM_o (n := 520 + 3 * (w - 10) + j) (by omega) (by omega) (by omega) (by omega), if_pos (by rw [show 520 + 3 * (w - 10) + j = 500 + (20 + 3 * (w - 10) + j) by omega]; exact h5 _ (by omega) (by omega))]
          rfl)
      · rw [setM_o (n := 400 + w) (by omega) (by omega) (by omega) (by omega)] at hw
        have w5 : w < 5 := by
          rcases Nat.lt_or_ge w 5 with v | v
          · exact v
          · have := hz w v w4; omega
        refine Or.inl ⟨hw, ⟨?_, fun v => absurd v c5, fun v => by omega⟩, rfl⟩
        unfold lnL
        rw [setM_o (n := 14) (by omega) (by omega) (by omega) (by omega)]
  have hS1 : va_S (va_Aof (setM G H.size N)) s.heap H1 L1 := by
    have hA : ∀ q, H.size ≤ q → va_Aof (setM G H.size N) q := fun q hq => ⟨by have := b.1; show G.1 ≤ q; omega, Or.inl sg'.1⟩
    have eA : va_Aof (setM G H.size N) = va_Aof G := by
      unfold va_Aof
      rw [show (setM G H.size N).1 = G.1 from rfl, setM_o (n := 399) (by omega) (by omega) (by omega) (by omega)]
    refine ⟨Nat.le_trans hS.1 (by omega), fun q h1 h2 => (o1 q (Nat.lt_of_lt_of_le h1 hS.1)).trans (hS.2.1 q h1 (by rw [← eA]; exact h2)), fun q hq => ?_⟩
    rcases hL1 q hq with v | v
    · rw [eA]; exact hS.2.2 q v
    · rw [v]; exact hA _ (Nat.le_refl _)
  have k2 := k1 H.size eg sg' hc' ho ⟨trivial, hs.2.2⟩ H1 L1 ls (eg.lr ho hlo hL) hP1 hS1
  have ev : cv (setM G H.size N) (3, 5) = .ref H.size := rfl
  rw [List.map_cons, ev, eg.map hs.2.2 hst] at k2
  exact k2
theorem V.rowst {c0 k : Nat} {yy kk cc0 : Int} (hc : VC G p R s m args meth c own cc nL d) (sg : SG G) (hm : MC G s) (h6 : G.2.2.1 14 ≤ 6) (hc0 : c0 < G.2.2.1 14) (hk : k < 3) (hr : G.2.2.1 (410 + c0) = 1) (hy : G.2.2.1 (420 + 3 * c0 + k) = 1) (ey : yy = 20 + 3 * (c0 : Int) + (k : Int)) (ek : kk = (k : Int)) (ec : cc0 = 10 + (c0 : Int)) (hlo : LiveS G lo) (hst : LiveS G st) (hd : decode cc pc = .ok (.aastore, 1))
    (k1 : EG G (setW G (20 + 3 * c0 + k)) → SG (setW G (20 + 3 * c0 + k)) → VC (setW G (20 + 3 * c0 + k)) p R s m args meth c own cc nL d → V (setW G (20 + 3 * c0 + k)) p l e R s m args below meth c Q nL (pc + 1) lo st h n) : V G p l e R s m args below meth c Q nL pc lo ((3, yy) :: (0, kk) :: (3, cc0) :: st) h n := by
  intro ho hs H L ls hL hP hS
  subst ey; subst ek; subst ec
  have eg := setW_eg (G := G) (y := 20 + 3 * c0 + k)
  have sg' := setW_sg (y := 20 + 3 * c0 + k) sg
  have hc' := eg.vc hc sg'.D
  have hD := hc.D h
  obtain ⟨e1, e2, e3, e4, e5, e6, -⟩ := hc
  obtain ⟨-, kB, hkB, hkindB⟩ := hm
  obtain ⟨qa, hqa, -⟩ := mkW_law G h (x := 10 + c0) (by omega) (by omega) (by rw [show 400 + (10 + c0) = 410 + c0 by omega]; exact hr)
  obtain ⟨qy, hqy, -⟩ := mkW_law G h (x := 20 + 3 * c0 + k) (by omega) (by omega) (by rw [show 400 + (20 + 3 * c0 + k) = 420 + 3 * c0 + k by omega]; exact hy)
  have ecA : cellL G (10 + c0) (h (200 + (10 + c0)) 0) = .inl (G.2.2.1 5, 3, .inr (.inr (.inr (.inr (slL G (10 + c0)))))) := by
    unfold cellL lnL
    rw [if_neg (by omega), if_pos (by omega), if_neg (by omega), if_neg (by omega), if_neg (by omega), if_neg (by omega)]
    rfl
  have ecY : cellL G (20 + 3 * c0 + k) (h (200 + (20 + 3 * c0 + k)) 0) = .inl (G.2.2.1 0, 3, .inl (fun j : Nat => Int32.ofInt (h (200 + (20 + 3 * c0 + k)) 0 j))) := by
    unfold cellL lnL
    rw [if_neg (by omega), if_neg (by omega), if_neg (by omega), if_neg (by omega), if_neg (by omega), if_neg (by omega)]
  rw [ecA] at hqa
  rw [ecY] at hqy
  have ha : H[G.2.2.1 (310 + c0)]? = some (arrV (G.2.2.1 5) 3 (fun j => va_rf (slL G (10 + c0) j))) := by
    have := hP qa _ hqa
    rw [show 300 + (10 + c0) = 310 + c0 by omega] at this
    exact this
  have hv : H[G.2.2.1 (320 + 3 * c0 + k)]? = some (arrV (G.2.2.1 0) 3 (fun j => .int (Int32.ofInt (h (200 + (20 + 3 * c0 + k)) 0 j)))) := by
    have := hP qy _ hqy
    rw [show 300 + (20 + 3 * c0 + k) = 320 + 3 * c0 + k by omega] at this
    exact this
  obtain ⟨-, kI, hkI, -⟩ := (e6.1.2 0 (G.2.2.1 0, .int) rfl).1 0 (fun _ => .null)
  have hin := ofInt_in (x := (k : Int)) (n := 3) (by omega) (by omega) (by decide)
  have hcl : (Int32.ofInt (k : Int)).toNatClampNeg = k := by rw [ofInt_clamp (by omega) (by omega)]; omega
  have hva : cv G (3, 20 + 3 * (c0 : Int) + (k : Int)) = .ref (G.2.2.1 (320 + 3 * c0 + k)) := by
    show (if (20 + 3 * (c0 : Int) + (k : Int)) = 0 then Value.ref _ else if G.2.2.1 (400 + (20 + 3 * (c0 : Int) + (k : Int)).toNat) = 0 then Value.null else Value.ref (G.2.2.1 (300 + (20 + 3 * (c0 : Int) + (k : Int)).toNat))) = _
    rw [if_neg (by omega), show 400 + (20 + 3 * (c0 : Int) + (k : Int)).toNat = 420 + 3 * c0 + k by omega, hy, if_neg (by decide), show 300 + (20 + 3 * (c0 : Int) + (k : Int)).toNat = 320 + 3 * c0 + k by omega]
  have hra : cv G (3, 10 + (c0 : Int)) = .ref (G.2.2.1 (310 + c0)) := by
    show (if (10 + (c0 : Int)) = 0 then Value.ref _ else if G.2.2.1 (400 + (10 + (c0 : Int)).toNat) = 0 then Value.null else Value.ref (G.2.2.1 (300 + (10 + (c0 : Int)).toNat))) = _
    rw [if_neg (by omega), show 400 + (10 + (c0 : Int)).toNat = 410 + c0 by omega, hr, if_neg (by decide), show 300 + (10 + (c0 : Int)).toNat = 310 + c0 by omega]
  rw [List.map_cons, List.map_cons, List.map_cons, hva, hra]
  refine W.aast (k := kB) (kv := kI) (kcomp := kI) (comp := G.2.2.1 0) (t := .array .int) e1 e2 ha (fun q z => by cases z) (fun z => by cases z) hkB hkindB rfl hkI ⟨fun z => hin (Or.inl z), by show _ < (arrV _ _ _).slots.size; rw [arrV_size, hcl]; exact hk⟩ hv (fun q z => by cases z) hkI (asg_rf _ _) rfl rfl hd (fun H1 b1 z1 oq => ?_)
  rw [hcl, arrV_store] at b1
  have hP1 : va_P (setW G (20 + 3 * c0 + k)).2.1 vwCl (mkW (setW G (20 + 3 * c0 + k)) h) H1 := by
    refine ext_P2 (x0 := 10 + c0) eg sg (by omega) (by rw [show 400 + (10 + c0) = 410 + c0 by omega]; exact hr) hP (fun q hq => oq q (by rw [show 310 + c0 = 300 + (10 + c0) by omega]; exact hq)) ⟨setW_o (by omega), setW_o (by omega)⟩ (fun w w3 w4 hw => ?_)
    rw [setW_o (by omega)] at hw
    by_cases cw : w = 10 + c0
    · subst cw
      refine Or.inr ?_
      have ecB : cellL (setW G (20 + 3 * c0 + k)) (10 + c0) (h (200 + (10 + c0)) 0) = .inl ((setW G (20 + 3 * c0 + k)).2.2.1 5, 3, .inr (.inr (.inr (.inr (slL (setW G (20 + 3 * c0 + k)) (10 + c0)))))) := by
        unfold cellL lnL
        rw [if_neg (by omega), if_pos (by omega), if_neg (by omega), if_neg (by omega), if_neg (by omega), if_neg (by omega)]
        rfl
      rw [ecB, setW_o (by omega), setW_o (by omega), show 300 + (10 + c0) = 310 + c0 by omega]
      show H1[G.2.2.1 (310 + c0)]? = some (vp_cell (G.2.2.1 5) (3, .inr (.inr (.inr (.inr (slL (setW G (20 + 3 * c0 + k)) (10 + c0)))))))
      rw [vp_cell_q, b1]
      refine congrArg some (arrV_cg (fun j hj => ?_))
      show (if j = k then Value.ref (G.2.2.1 (320 + 3 * c0 + k)) else va_rf (slL G (10 + c0) j)) = va_rf (slL (setW G (20 + 3 * c0 + k)) (10 + c0) j)
      unfold slL
      by_cases cj : j = k
      · subst cj
        rw [if_pos rfl, show 520 + 3 * (10 + c0 - 10) + j = 500 + (20 + 3 * c0 + j) by omega, setW_1, if_neg (by decide), setW_o (by omega), show 320 + 3 * (10 + c0 - 10) + j = 320 + 3 * c0 + j by omega]
        rfl
      · rw [if_neg cj, setW_o (n := 520 + 3 * (10 + c0 - 10) + j) (by omega), setW_o (n := 320 + 3 * (10 + c0 - 10) + j) (by omega)]
    · refine Or.inl ⟨hw, cw, ?_, fun v j hj => ?_, fun v j hj => ?_⟩
      · unfold lnL; rw [setW_o (by omega)]
      · rw [v] at hj
        have hj' : j < G.2.2.1 14 := hj
        exact setW_o (by omega)
      · unfold slL
        have l3 : lnL G w ≤ 3 := by
          unfold lnL
          rcases v with v | v
          · rw [if_neg (by omega), if_neg (by omega), if_pos v]; omega
          · rw [if_neg (by omega), if_neg (by omega), if_neg (by omega), if_neg (by omega)]; omega
        rcases v with v | v
        · have : lnL G 6 = 0 := rfl
          rw [v, this] at hj
          exact absurd hj (Nat.not_lt_zero _)
        · rw [setW_o (by omega), setW_o (by omega)]
  have hS1 : va_S (va_Aof (setW G (20 + 3 * c0 + k))) s.heap H1 (L ++ [⟨G.2.2.1 (310 + c0), (Int32.ofInt (k : Int)).toNatClampNeg⟩]) := by
    have eA : va_Aof (setW G (20 + 3 * c0 + k)) = va_Aof G := by
      unfold va_Aof
      rw [show (setW G (20 + 3 * c0 + k)).1 = G.1 from rfl, setW_o (n := 399) (by omega)]
    rw [eA]
    have := hD.2 qa _ hqa
    rw [show 300 + (10 + c0) = 310 + c0 by omega] at this
    exact hS.put z1 oq this
  have k2 := k1 eg sg' hc' ho hs.2.2.2 H1 _ ls (eg.lr ho hlo hL) hP1 hS1
  rw [eg.map hs.2.2.2 hst] at k2
  exact k2
end NEW2
