/-! from the law's entry to its loop -/
def hsG (G : GG) (c k : Nat) : Bool := decide (G.2.2.1 (420 + 3 * c + k) = 1)
def cuG (h : HP) (c k : Nat) : Int × Int × Int := (h (220 + 3 * c + k) 0 0, h (220 + 3 * c + k) 0 1, h (220 + 3 * c + k) 0 2)
theorem data_ok {N : Nat} {pr : Nat → Int} {G2 G : GG} {h0 h : HP} (q : CuI N pr G2 G h0 h) (hN : 1 ≤ N ∧ N ≤ 6) (pd : ∀ j, j < N → G.2.2.1 (420 + 3 * j + 1) = 1) (hp : ∀ c : Nat, c < N → (pr c = 12 ∨ (0 ≤ pr c ∧ pr c < (c : Int))) ∧ h0 204 0 (c : Int) = rc (pr c)) : DatOK N pr (hsG G) (cuG h) ∧ DatH G h N pr (hsG G) (cuG h) := by
  obtain ⟨q1, q2, ⟨q31, q32, q33⟩, q4, q5, q6, q7⟩ := q
  refine ⟨⟨hN, fun c hc => ⟨?_, decide_eq_true (pd c hc), fun k hk on => ?_⟩⟩, q31, fun c hc => by rw [q7 204 (Or.inl (by decide))]; exact (hp c hc).2, fun c k hc hk => ⟨fun on => ⟨of_decide_eq_true on, rfl, rfl, rfl⟩, fun off => ?_⟩⟩
  · rcases (hp c hc).1 with z | z
    · exact Or.inl z
    · refine Or.inr ⟨z, decide_eq_false (fun on => ?_)⟩
      have := q5 (pr c).toNat (by omega) on c hc
      omega
  · have on' : G.2.2.1 (420 + 3 * c + k) = 1 := of_decide_eq_true on
    rcases q4 c k hk (by omega) with z | z
    · exact z.2.2
    · omega
  · have off' : ¬ G.2.2.1 (420 + 3 * c + k) = 1 := of_decide_eq_false off
    rcases q4 c k hk (by omega) with z | z
    · exact absurd z.1 off'
    · exact z.1
theorem LG_of {G : GG} {N : Nat} (hN : N ≤ 6) (e14 : G.2.2.1 14 = N) (h3 : G.2.2.1 403 = 1) (h4 : G.2.2.1 404 = 1) (h5 : G.2.2.1 405 = 1) (h6 : G.2.2.1 406 = 1) (h10 : ∀ j, j < N → G.2.2.1 (410 + j) = 1) (hsl : ∀ y : Nat, 20 ≤ y → y < 40 → (G.2.2.1 (500 + y) = 0 ↔ G.2.2.1 (400 + y) = 0)) (ho : OB G 1) : LG G := by
  have l6 : G.2.2.1 14 ≤ 6 := by rw [e14]; exact hN
  refine ⟨⟨by decide, h3, l6⟩, ⟨by decide, h4, l6⟩, ⟨by decide, h5, l6⟩, ⟨by decide, h6, l6⟩, fun {c} hc => ⟨?_, ?_, l6⟩, hsl, ho⟩
  · have e : npI G = (N : Int) := by unfold npI; rw [e14]
    omega
  · have e : npI G = (N : Int) := by unfold npI; rw [e14]
    rw [show 400 + (10 + c).toNat = 410 + c.toNat by omega]
    exact h10 _ (by omega)
/-- what the law's rows have: kept where nothing of it changes -/
theorem LG.to {G G' : GG} (lg : LG G) (x : EG G G') (e14 : G'.2.2.1 14 = G.2.2.1 14) (es : ∀ n, (420 ≤ n ∧ n < 440) ∨ (520 ≤ n ∧ n < 540) → G'.2.2.1 n = G.2.2.1 n) : LG G' := by
  obtain ⟨g3, g4, g5, g6, g10, gsl, go⟩ := lg
  have up : ∀ {x0 : Int}, exL G x0 → exL G' x0 := fun {x0} e => ⟨e.1, (x.2.2.2.2.2 x0.toNat (by have := e.1; omega) e.2.1).1, by rw [e14]; exact e.2.2⟩
  refine ⟨up g3, up g4, up g5, up g6, fun {c} hc => up (g10 (by unfold npI at hc ⊢; rw [e14] at hc; exact hc)), fun y y2 y4 => ?_, ?_⟩
  · rw [es (500 + y) (by omega), es (400 + y) (by omega)]; exact gsl y y2 y4
  · rcases go with ⟨-, a, b⟩ | ⟨a, -⟩
    · refine Or.inl ⟨rfl, ?_, (x.2.2.2.2.2 1 (by decide) b).1⟩
      have := (x.2.2.2.2.2 1 (by decide) b).2
      rw [show G'.2.2.1 301 = G.2.2.1 301 from this, a, x.1]
    · exact absurd a (by decide)
theorem DatH.to {G G' : GG} {h : HP} {N : Nat} {pr : Nat → Int} {hs : Nat → Nat → Bool} {cu : Nat → Nat → Int × Int × Int} (d : DatH G h N pr hs cu) (hN : N ≤ 6) (e14 : G'.2.2.1 14 = G.2.2.1 14) (es : ∀ n, 420 ≤ n → n < 440 → G'.2.2.1 n = G.2.2.1 n) : DatH G' h N pr hs cu := by
  obtain ⟨d1, d2, d3⟩ := d
  refine ⟨by rw [e14]; exact d1, d2, fun c k hc hk => ?_⟩
  rw [es (420 + 3 * c + k) (by omega) (by omega)]
  exact d3 c k hc hk
section STA
variable {G : GG} {p : Program} {l : Launch} {e : Jvm.Env} {s : State} {m : MethodId} {args : Array Value} {below : List Frame} {meth : Method} {c : Code} {Q : State → Prop}
theorem law_start (hc : VC G p room_1 s m args meth c RL cL_law 15 15) (hx : NX s) (hm : MC G s) (hov : (Cond.arrayOver (.array .int)).before args s = true) (h399 : G.2.2.1 399 = 1) (h401 : G.2.2.1 401 = 1) (h301 : G.2.2.1 301 = G.1) (hcl : cls2 G) (h14 : G.2.2.1 14 = 0) (hlen : G.2.2.1 11 ≤ 1000)
    (fin : ∀ (G' : GG) (pc : Nat) (lo : List TV) (x : Int) (h : HP) (n : Nat), EG G G' → n ≤ 100000 → decode cL_law pc = .ok (.ireturn, 1) → x = 1 → V G' p l e room_1 s m args below meth c Q 15 pc lo [(0, x)] h n) :
    V G p l e room_1 s m args below meth c Q 15 7 [(3, 0), (1, 0), (1, 0), (1, 0), (1, 0), (1, 0), (1, 0), (1, 0), (1, 0), (1, 0), (1, 0), (1, 0), (1, 0), (1, 0), (1, 0)] [(3, 1)] hpF 41000 := by
  have sg : SG G := ⟨h399, fun z => (by rw [hcl 402 (by decide)] at z; cases z), fun x _ _ z => (by rw [hcl (400 + x) (by omega)] at z; cases z), fun x _ _ _ _ _ z => (by rw [hcl (400 + x) (by omega)] at z; cases z)⟩
  have rm : ∀ k, k ≤ 100000 → k ≤ room_1.cells ∧ 6 * k ≤ room_1.slots := fun k hk => ⟨by show k ≤ 600086; omega, by show 6 * k ≤ 7301442; omega⟩
  have ob1 : OB G 1 := Or.inl ⟨rfl, h301, h401⟩
  have lv1 : ∀ {G' : GG}, EG G G' → Live G' (3, 1) := fun x => live_x (by decide) (x.2.2.2.2.2 1 (by decide) h401).1
  refine V.astoreC_n hc ob1.rf dL_law_7 rfl rfl (lo' := [(3, 0), (3, 1), (1, 0), (1, 0), (1, 0), (1, 0), (1, 0), (1, 0), (1, 0), (1, 0), (1, 0), (1, 0), (1, 0), (1, 0), (1, 0)]) rfl ?_
  refine V.bipush hc dL_law_8 (by decide) ?_
  have un : ∀ G' : GG, LiveS G' [(1, 0), (1, 0), (1, 0), (1, 0), (1, 0), (1, 0), (1, 0), (1, 0), (1, 0), (1, 0)] := fun G' x hx => by
    simp only [List.mem_cons, List.not_mem_nil, or_false, or_self] at hx
    rw [hx]; exact live_u G' 0
  have u1 : ∀ G' : GG, Live G' (1, 0) := fun G' => live_u G' 0
  refine V.newI (x := 3) (N := 6) (n' := 41001) hc sg (by decide) (Or.inl rfl) (hcl _ (by decide)) (hcl _ (by decide)) (by omega) (fun z => absurd z (by decide)) (fun a => rfl) rfl (by decide) (LiveS.cons (live_0 G) (LiveS.cons (lv1 (EG.rf G)) (LiveS.cons (u1 G) (LiveS.cons (u1 G) (LiveS.cons (u1 G) (un G)))))) (LiveS.nil G) abI ⟨by decide, by decide, rm 41001 (by decide)⟩ dL_law_10 (fun a1 nw1 hc1 => ?_)
  -- w
  have G1o : ∀ n, n ≠ 303 → n ≠ 403 → (setA G 3 a1 6).2.2.1 n = G.2.2.1 n := fun n a b => setA_o a b (by omega)
  generalize hG1 : setA G 3 a1 6 = G1 at nw1 hc1 G1o
  have h3_1 : G1.2.2.1 403 = 1 := nw1.2.2.1
  have ob1_1 : OB G1 1 := Or.inl ⟨rfl, by rw [G1o 301 (by decide) (by decide), nw1.1.1]; exact h301, by rw [G1o 401 (by decide) (by decide)]; exact h401⟩
  have cl1 : ∀ n, 404 ≤ n → G1.2.2.1 n = 0 := fun n hn => by rw [G1o n (by omega) (by omega)]; exact hcl n (by omega)
  have e14_1 : G1.2.2.1 14 = 0 := by rw [G1o 14 (by decide) (by decide)]; exact h14
  have hlen1 : G1.2.2.1 11 ≤ 1000 := by rw [G1o 11 (by decide) (by decide)]; exact hlen
  have ex3_1 : exL G1 3 := ⟨by decide, h3_1, by omega⟩
  refine V.astoreC_n hc1 ex3_1.rf dL_law_12 rfl rfl (lo' := [(3, 0), (3, 1), (3, 3), (1, 0), (1, 0), (1, 0), (1, 0), (1, 0), (1, 0), (1, 0), (1, 0), (1, 0), (1, 0), (1, 0), (1, 0)]) rfl ?_
  refine V.aloadC_n hc1 (rf_0 _) dL_law_13 rfl rfl ?_
  refine V.iconst hc1 dL_law_14 ?_
  have lvw : ∀ {G' : GG}, EG G1 G' → Live G' (3, 3) := fun x => live_x (by decide) (x.2.2.2.2.2 3 (by decide) h3_1).1
  generalize hh1 : upr hpF (200 + 3) 0 (fun _ => 0) = h1
  have h1k : ∀ k, k < 100 → h1 k = hpF k := fun k hk => by rw [← hh1]; exact upr_far (by omega)
  have h1w : ∀ i, h1 203 0 i = 0 := fun i => by rw [← hh1, show (203 : Nat) = 200 + 3 from rfl, upr_at]
  refine V.callR (mc := 1) hc1 (hm.eg nw1.1) (qL_parents G1 l nw1.2.1 hlen1 (fun y y4 y40 => cl1 _ (by omega)) (fun y y40 => cl1 _ (by omega)) (by omega) h1) mo_L_parents ml_L_93 (as := [(3, 0), (0, 0)]) (st := []) rfl (LiveS.cons (live_0 G1) (LiveS.cons (lv1 nw1.1) (LiveS.cons (lvw (EG.rf G1)) (LiveS.cons (u1 G1) (LiveS.cons (u1 G1) (un G1)))))) (LiveS.nil G1) rfl rfl rfl rfl ⟨by show 41001 + 1 ≤ 600086; decide, by show 6 * 41001 + 6 * 1 ≤ 7301442; decide⟩ dL_law_15 (fun G2 h2 x hp eg2 sg2 hc2 hx2 => ?_)
  obtain ⟨rfl, nw2, N, pr, hN, e14_2, hpr, hk2⟩ := hp
  have G2o : ∀ n, 300 ≤ n → n ≠ 304 → n ≠ 404 → G2.2.2.1 n = G1.2.2.1 n := nw2.2.2.2.2
  have h4_2 : G2.2.2.1 404 = 1 := nw2.2.2.1
  have cl2 : ∀ n, 405 ≤ n → G2.2.2.1 n = 0 := fun n hn => by rw [G2o n (by omega) (by omega) (by omega)]; exact cl1 n (by omega)
  have ex4_2 : exL G2 4 := ⟨by decide, h4_2, by omega⟩
  refine V.astoreC_n hc2 ex4_2.rf dL_law_18 rfl rfl (lo' := [(3, 0), (3, 1), (3, 3), (3, 4), (1, 0), (1, 0), (1, 0), (1, 0), (1, 0), (1, 0), (1, 0), (1, 0), (1, 0), (1, 0), (1, 0)]) rfl ?_
  refine V.aloadC_n hc2 (rf_0 _) dL_law_19 rfl rfl ?_
  refine V.iconst hc2 dL_law_20 ?_
  refine V.aloadC_n hc2 ex4_2.rf dL_law_21 rfl rfl ?_
  have eg02 := nw1.1.tr eg2
  have hlen2 : G2.2.2.1 11 ≤ 1000 := by rw [eg2.2.2.2.1 11 (by decide) (by decide)]; exact hlen1
  have lvp : ∀ {G' : GG}, EG G2 G' → Live G' (3, 4) := fun x => live_x (by decide) (x.2.2.2.2.2 4 (by decide) h4_2).1
  refine V.callR (mc := 25) hc2 (hm.eg eg02) (qL_curves G2 l sg2 hlen2 N pr hN e14_2 h4_2 (fun y y4 y40 => cl2 _ (by omega)) (fun y y40 => cl2 _ (by omega)) h2 hpr) mo_L_curves ml_L_97 (as := [(3, 0), (0, 1), (3, 4)]) (st := []) rfl (LiveS.cons (live_0 G2) (LiveS.cons (lv1 eg02) (LiveS.cons (lvw eg2) (LiveS.cons (lvp (EG.rf G2)) (LiveS.cons (u1 G2) (un G2)))))) (LiveS.nil G2) rfl rfl rfl rfl ⟨by show 41001 + 1 + 25 ≤ 600086; decide, by show 6 * (41001 + 1) + 6 * 25 ≤ 7301442; decide⟩ dL_law_22 (fun G3 h3 x hp eg3 sg3 hc3 hx3 => ?_)
  obtain ⟨rfl, q3, pd3, un3⟩ := hp
  obtain ⟨dk, dh⟩ := data_ok q3 hN pd3 hpr
  have q33 := q3.2.2.1
  have G3o := q3.2.2.2.2.2.1
  have h3k := q3.2.2.2.2.2.2
  have ex5_3 : exL G3 5 := ⟨by decide, q33.2.1, by rw [q33.1]; exact hN.2⟩
  have eg03 := eg02.tr eg3
  have eg13 := eg2.tr eg3
  refine V.astoreC hc3 ex5_3.rf dL_law_25 rfl (lo' := [(3, 0), (3, 1), (3, 3), (3, 4), (3, 5), (1, 0), (1, 0), (1, 0), (1, 0), (1, 0), (1, 0), (1, 0), (1, 0), (1, 0), (1, 0)]) rfl ?_
  have lvc : ∀ {G' : GG}, EG G3 G' → Live G' (3, 5) := fun x => live_x (by decide) (x.2.2.2.2.2 5 (by decide) q33.2.1).1
  have ref_ : ∀ {G' : GG} {x : Int}, Live G' (3, x) → x ≠ 0 → ∃ a, cv G' (3, x) = .ref a := fun {G' x} lv h0 => by
    obtain ⟨z1, z2⟩ := lv rfl h0
    have z2' : G'.2.2.1 (400 + x.toNat) = 1 := z2
    refine ⟨G'.2.2.1 (300 + x.toNat), ?_⟩
    show (if x = 0 then Value.ref (G'.2.2.1 10) else if G'.2.2.1 (400 + x.toNat) = 0 then Value.null else Value.ref (G'.2.2.1 (300 + x.toNat))) = _
    rw [if_neg h0, z2', if_neg (by decide)]
  refine V.aloadC_n hc3 (ref_ (lv1 eg03) (by decide)) dL_law_27 rfl rfl ?_
  refine V.aloadC_n hc3 (ref_ (lvw eg13) (by decide)) dL_law_28 rfl rfl ?_
  refine V.aloadC_n hc3 (ref_ (lvp eg3) (by decide)) dL_law_29 rfl rfl ?_
  refine V.aloadC hc3 ex5_3.rf dL_law_30 rfl ?_
  refine V.iconst hc3 dL_law_32 ?_
  have lo5 : ∀ {G' : GG}, EG G3 G' → LiveS G' [(3, 0), (3, 1), (3, 3), (3, 4), (3, 5), (1, 0), (1, 0), (1, 0), (1, 0), (1, 0), (1, 0), (1, 0), (1, 0), (1, 0), (1, 0)] := fun {G'} x => LiveS.cons (live_0 G') (LiveS.cons (lv1 (eg03.tr x)) (LiveS.cons (lvw (eg13.tr x)) (LiveS.cons (lvp (eg3.tr x)) (LiveS.cons (lvc x) (un G')))))
  have lst : LiveS G3 [(3, 5), (3, 4), (3, 3), (3, 1)] := LiveS.cons (lvc (EG.rf G3)) (LiveS.cons (lvp eg3) (LiveS.cons (lvw eg13) (LiveS.cons (lv1 eg03) (LiveS.nil G3))))
  have c3 : ∀ n, n = 402 ∨ n = 406 ∨ n = 407 ∨ n = 408 ∨ n = 506 ∨ n = 507 ∨ n = 508 → G3.2.2.1 n = 0 := fun n hn => by
    rw [G3o n (by omega) (by omega) (by omega) (by omega) (by omega) (by omega)]
    rcases hn with z | z
    · rw [z, G2o 402 (by decide) (by decide) (by decide), G1o 402 (by decide) (by decide)]; exact hcl 402 (by decide)
    · exact cl2 n (by omega)
  refine V.newR (n' := 41028) hc3 sg3 (c3 406 (by decide)) (c3 506 (by decide)) (by rw [q33.1]; exact hN.2) (lo5 (EG.rf G3)) lst cb_L_39 hov ⟨by decide, rm 41028 (by decide)⟩ dL_law_33 (fun a4 nw4 hc4 => ?_)
  generalize hG4 : setA G3 6 a4 0 = G4 at nw4 hc4
  have G4o : ∀ n, 300 ≤ n → n ≠ 306 → n ≠ 406 → G4.2.2.1 n = G3.2.2.1 n := nw4.2.2.2.2
  have e14_4 : G4.2.2.1 14 = N := by rw [nw4.2.2.2.1 (by decide)]; exact q33.1
  have eg34 := nw4.1
  have eg04 := eg03.tr eg34
  have lg4 : LG G4 := by
    refine LG_of hN.2 e14_4 ?_ ?_ ?_ nw4.2.2.1 (fun j hj => ?_) (fun y y2 y4 => ?_) (Or.inl ⟨rfl, ?_, ?_⟩)
    · exact ((eg13.tr eg34).2.2.2.2.2 3 (by decide) h3_1).1
    · exact ((eg3.tr eg34).2.2.2.2.2 4 (by decide) h4_2).1
    · exact (eg34.2.2.2.2.2 5 (by decide) q33.2.1).1
    · rw [G4o (410 + j) (by omega) (by omega) (by omega)]; exact q33.2.2 j hj
    · rw [G4o (500 + y) (by omega) (by omega) (by omega), G4o (400 + y) (by omega) (by omega) (by omega)]
      have := q3.2.2.2.1 ((y - 20) / 3) ((y - 20) % 3) (by omega) (by omega)
      unfold CurAt at this
      rw [show 420 + 3 * ((y - 20) / 3) + (y - 20) % 3 = 400 + y by omega, show 520 + 3 * ((y - 20) / 3) + (y - 20) % 3 = 500 + y by omega] at this
      omega
    · have := (eg04.2.2.2.2.2 1 (by decide) h401).2
      rw [show G4.2.2.1 301 = G.2.2.1 301 from this, h301, eg04.1]
    · exact (eg04.2.2.2.2.2 1 (by decide) h401).1
  have dh4 : DatH G4 h3 N pr (hsG G3) (cuG h3) := dh.to hN.2 (nw4.2.2.2.1 (by decide)) (fun n a b => G4o n (by omega) (by omega) (by omega))
  have hlow : ∀ k, k < 204 → h3 k = h1 k := fun k hk => by rw [h3k k (Or.inl (by omega)), hk2 k (by omega)]
  have bf : Buf 1 0 pi0 sd0 im0 tx0.2.2 [] h3 := first_Buf (fun k hk => by show h3 (k + 100 * 0) = hpF k; rw [show k + 100 * 0 = k by omega, hlow k (by omega), h1k k hk]) (Wk_0 (fun i => by rw [hlow 203 (by decide)]; exact h1w i))
  refine V.callSI hc4 (qL_tell G4 l lg4 h3 (fun x h' => x = 1 ∧ ∃ δ gg im' t', (∀ k, 100 ≤ k → k ≠ 203 → h' k = h3 k) ∧ Wk h' 0 [] ∧ PlanD δ N pr (hsG G3) (cuG h3) ∧ DOK δ ∧ Lnk 1 0 δ (st0 δ gg) sd0.2.2.1 sd0.2.2.2.2 im' t' h') (tell_s (Int.le_refl 0) dk dh4 bf (fun h' δ gg im' t' a b c d f => ⟨rfl, δ, gg, im', t', a, b, c, d, f⟩))) mo_L_tell ml_L_101 (as := [(3, 1), (3, 3), (3, 4), (3, 5), (3, 6)]) (st := []) rfl rfl rfl rfl rfl (rm 41028 (by decide)) dL_law_36 (fun x h5 hx5 => ?_)
  obtain ⟨rfl, δ, gg, im', t', fr5, wk5, pd5, dok5, lnk5⟩ := hx5
  refine V.if_eq hc4 (tgt := 58) dL_law_39 (by decide) (by unfold inR; omega) (fun z => absurd z (by decide)) (fun _ => ?_)
  refine V.aloadC_n hc4 (ref_ (lv1 eg04) (by decide)) dL_law_42 rfl rfl ?_
  refine V.aloadC_n hc4 (ref_ (lvp (eg3.tr eg34)) (by decide)) dL_law_43 rfl rfl ?_
  refine V.newO (n' := 82028) hc4 nw4.2.1 hx (by rw [G4o 402 (by decide) (by decide) (by decide)]; exact c3 402 (by decide)) (by omega) (lo5 eg34) (LiveS.cons (lvp (eg3.tr eg34)) (LiveS.cons (lv1 eg04) (LiveS.nil G4))) rfl ⟨by decide, rm 82028 (by decide)⟩ ⟨by show 5 ≤ 16; decide, by show 180 ≤ 624; decide⟩ dL_law_44 dL_law_47 dL_law_48 (fun z5 hz5 eg5 sg5 hc5 => ?_)
  have G5o : ∀ n, n ≠ 302 → n ≠ 402 → (setO G4 z5).2.2.1 n = G4.2.2.1 n := fun n a b => setO_o a b
  have ob2_5 : OB (setO G4 z5) 2 := Or.inr ⟨rfl, rfl, by rw [G5o 399 (by decide) (by decide), eg04.2.2.2.2.1]; exact h399, hz5⟩
  generalize hG5 : setO G4 z5 = G5 at eg5 sg5 hc5 G5o ob2_5
  have eg05 := eg04.tr eg5
  have lg5 : LG G5 := lg4.to eg5 (G5o 14 (by decide) (by decide)) (fun n hn => G5o n (by omega) (by omega))
  generalize hh6 : pt 2 h5 hpF = h6
  have h6a : ∀ k, (k < 100 ∨ 200 ≤ k) → h6 k = h5 k := fun k hk => by rw [← hh6]; exact pt_2o hk
  have h6b : ∀ k, k < 100 → h6 (k + 100) = hpF k := fun k hk => by rw [← hh6]; exact pt_2 hk
  have dh5 : DatH G5 h6 N pr (hsG G3) (cuG h3) := (dh4.to hN.2 (G5o 14 (by decide) (by decide)) (fun n a b => G5o n (by omega) (by omega))).fr (fun k hk => by rw [h6a k (Or.inr (by omega)), fr5 k (by omega) (by omega)])
  have st6 : St 1 0 δ (st0 δ gg, 0, sd0.2.2.1, 0, sd0.2.2.2.2) im' t' h6 := St.k1 ⟨lnk5.1, lnk5.2.1⟩ (fun k hk => h6a k (Or.inl hk))
  have bf6 : Buf 2 0 pi0 sd0 im0 tx0.2.2 [] h6 := first_Buf (fun k hk => by show h6 (k + 100 * 1) = hpF k; exact h6b k hk) (by
    obtain ⟨w1, w2⟩ := wk5
    have e203 : h6 (kd 3) = h5 (kd 3) := h6a 203 (Or.inr (by decide))
    exact ⟨by rw [e203]; exact w1, by rw [e203]; exact w2⟩)
  refine V.aloadC_n hc5 (ref_ (lvw ((eg13.tr eg34).tr eg5)) (by decide)) dL_law_51 rfl rfl ?_
  refine V.callSI hc5 (qL_isToldAgain G5 l lg5 h6 (fun x h' => x = 1 ∧ H204 h6 h' ∧ St 1 0 δ (st0 δ gg, 0, sd0.2.2.1, 0, sd0.2.2.2.2) im' t' h') ob2_5 (again_s (Int.le_refl 0) dk dh5 pd5.1 pd5.2.2.1 (CuS_st0 dk pd5) st6 bf6 (fun h' a b => ⟨rfl, a, b⟩))) mo_L_isToldAgain ml_L_105 (as := [(3, 1), (3, 4), (3, 2), (3, 3)]) (st := []) rfl rfl rfl rfl rfl (rm 82028 (by decide)) dL_law_52 (fun x h7 hx7 => ?_)
  obtain ⟨rfl, f7, st7⟩ := hx7
  refine V.if_ne hc5 (tgt := 60) dL_law_55 (by decide) (by unfold inR; omega) (fun _ => ?_) (fun z => absurd z (by decide))
  refine V.iconst hc5 dL_law_60 ?_
  refine V.istore hc5 dL_law_61 rfl (lo' := [(3, 0), (3, 1), (3, 3), (3, 4), (3, 5), (0, 0), (1, 0), (1, 0), (1, 0), (1, 0), (1, 0), (1, 0), (1, 0), (1, 0), (1, 0)]) rfl ?_
  refine V.aloadC_n hc5 (ref_ (lvp ((eg3.tr eg34).tr eg5)) (by decide)) dL_law_63 rfl rfl ?_
  have e14_5 : G5.2.2.1 14 = N := by rw [G5o 14 (by decide) (by decide)]; exact e14_4
  have hln5 : ((lnL G5 (4 : Int).toNat : Nat) : Int) = (N : Int) := by
    show ((G5.2.2.1 14 : Nat) : Int) = _
    rw [e14_5]
  refine V.laln (ln := (N : Int)) hc5 lg5.e4 (by decide) hln5 dL_law_64 ?_
  have n8 : ∀ n, n = 407 ∨ n = 408 ∨ n = 507 ∨ n = 508 → G5.2.2.1 n = 0 := fun n hn => by
    rw [G5o n (by omega) (by omega), G4o n (by omega) (by omega) (by omega)]
    exact c3 n (by omega)
  have liv5 : ∀ {G' : GG}, EG G5 G' → Live G' (3, 0) ∧ Live G' (3, 1) ∧ Live G' (3, 3) ∧ Live G' (3, 4) ∧ Live G' (3, 5) := fun {G'} x => ⟨live_0 G', lv1 (eg05.tr x), lvw (((eg13.tr eg34).tr eg5).tr x), lvp (((eg3.tr eg34).tr eg5).tr x), lvc ((eg34.tr eg5).tr x)⟩
  have un5 : ∀ G' : GG, LiveS G' [(1, 0), (1, 0), (1, 0), (1, 0), (1, 0)] := fun G' x hx => by
    simp only [List.mem_cons, List.not_mem_nil, or_false, or_self] at hx
    rw [hx]; exact live_u G' 0
  obtain ⟨l50, l51, l53, l54, l55⟩ := liv5 (EG.rf G5)
  refine V.newI (x := 7) (N := N) (n' := 82029) hc5 sg5 (by decide) (Or.inr (Or.inr (Or.inl rfl))) (n8 407 (by decide)) (n8 507 (by decide)) (by omega) (fun z => absurd z (by decide)) (fun a => by show (setA G5 7 a N).2.2.1 14 = N; rw [setA_o (by decide) (by decide) (by decide)]; exact e14_5) rfl (by omega) (LiveS.cons l50 (LiveS.cons l51 (LiveS.cons l53 (LiveS.cons l54 (LiveS.cons l55 (LiveS.cons (live_i G5 0) (LiveS.cons (u1 G5) (LiveS.cons (u1 G5) (LiveS.cons (u1 G5) (LiveS.cons (u1 G5) (un5 G5))))))))))) (LiveS.nil G5) abI ⟨by decide, by omega, rm 82029 (by decide)⟩ dL_law_65 (fun a6 nw6 hc6 => ?_)
  have G6o : ∀ n, n ≠ 307 → n ≠ 407 → (setA G5 7 a6 N).2.2.1 n = G5.2.2.1 n := fun n a b => setA_o a b (by omega)
  generalize hG6 : setA G5 7 a6 N = G6 at nw6 hc6 G6o
  have e14_6 : G6.2.2.1 14 = N := by rw [G6o 14 (by decide) (by decide)]; exact e14_5
  have ex7_6 : exL G6 7 := ⟨by decide, nw6.2.2.1, by omega⟩
  refine V.astoreC hc6 ex7_6.rf dL_law_67 rfl (lo' := [(3, 0), (3, 1), (3, 3), (3, 4), (3, 5), (0, 0), (3, 7), (1, 0), (1, 0), (1, 0), (1, 0), (1, 0), (1, 0), (1, 0), (1, 0)]) rfl ?_
  refine V.iconst hc6 dL_law_69 ?_
  refine V.istore hc6 dL_law_70 rfl (lo' := [(3, 0), (3, 1), (3, 3), (3, 4), (3, 5), (0, 0), (3, 7), (0, 0), (1, 0), (1, 0), (1, 0), (1, 0), (1, 0), (1, 0), (1, 0)]) rfl ?_
  refine V.bipush hc6 dL_law_72 (by decide) ?_
  obtain ⟨l60, l61, l63, l64, l65⟩ := liv5 nw6.1
  have l67 : Live G6 (3, 7) := live_x (by decide) nw6.2.2.1
  refine V.newI (x := 8) (N := 17) (n' := 82032) hc6 nw6.2.1 (by decide) (Or.inr (Or.inr (Or.inr (Or.inl rfl)))) (by rw [G6o 408 (by decide) (by decide)]; exact n8 408 (by decide)) (by rw [G6o 508 (by decide) (by decide)]; exact n8 508 (by decide)) (by omega) (fun z => absurd z (by decide)) (fun a => rfl) rfl (by decide) (LiveS.cons l60 (LiveS.cons l61 (LiveS.cons l63 (LiveS.cons l64 (LiveS.cons l65 (LiveS.cons (live_i G6 0) (LiveS.cons l67 (LiveS.cons (live_i G6 0) (LiveS.cons (u1 G6) (LiveS.cons (u1 G6) (un5 G6))))))))))) (LiveS.nil G6) abI ⟨by decide, by decide, rm 82032 (by decide)⟩ dL_law_74 (fun a7 nw7 hc7 => ?_)
  have G7o : ∀ n, n ≠ 308 → n ≠ 408 → (setA G6 8 a7 17).2.2.1 n = G6.2.2.1 n := fun n a b => setA_o a b (by omega)
  generalize hG7 : setA G6 8 a7 17 = G7 at nw7 hc7 G7o
  have e14_7 : G7.2.2.1 14 = N := by rw [G7o 14 (by decide) (by decide)]; exact e14_6
  have ex8_7 : exL G7 8 := ⟨by decide, nw7.2.2.1, by omega⟩
  have ex7_7 : exL G7 7 := ⟨by decide, by show G7.2.2.1 407 = 1; rw [G7o 407 (by decide) (by decide)]; exact nw6.2.2.1, by omega⟩
  refine V.astoreC hc7 ex8_7.rf dL_law_76 rfl (lo' := [(3, 0), (3, 1), (3, 3), (3, 4), (3, 5), (0, 0), (3, 7), (0, 0), (3, 8), (1, 0), (1, 0), (1, 0), (1, 0), (1, 0), (1, 0)]) rfl ?_
  refine V.iconst hc7 dL_law_78 ?_
  refine V.istore hc7 dL_law_79 rfl (lo' := [(3, 0), (3, 1), (3, 3), (3, 4), (3, 5), (0, 0), (3, 7), (0, 0), (3, 8), (0, 0), (1, 0), (1, 0), (1, 0), (1, 0), (1, 0)]) rfl ?_
  have eg57 := nw6.1.tr nw7.1
  have eg07 := eg05.tr eg57
  have e57 : ∀ n, n ≠ 307 → n ≠ 407 → n ≠ 308 → n ≠ 408 → G7.2.2.1 n = G5.2.2.1 n := fun n a b d f => by rw [G7o n d f, G6o n a b]
  have lg7 : LG G7 := lg5.to eg57 (e57 14 (by decide) (by decide) (by decide) (by decide)) (fun n hn => e57 n (by omega) (by omega) (by omega) (by omega))
  have ob7 : OB G7 1 := lg7.o1
  have hlen7 : G7.2.2.1 11 ≤ 1000 := by rw [eg07.2.2.2.1 11 (by decide) (by decide)]; exact hlen
  generalize hh8 : upr (upr h7 (200 + 7) 0 (fun _ => 0)) (200 + 8) 0 (fun _ => 0) = h8
  have h8k : ∀ k, k ≠ 207 → k ≠ 208 → h8 k = h7 k := fun k a b => by rw [← hh8, upr_far (by omega), upr_far (by omega)]
  have h8v : ∀ i, h8 207 0 i = 0 := fun i => by rw [← hh8, upr_far (by decide), show (207 : Nat) = 200 + 7 from rfl, upr_at]
  have dh7 : DatH G7 h8 N pr (hsG G3) (cuG h3) := (dh5.to hN.2 (e57 14 (by decide) (by decide) (by decide) (by decide)) (fun n a b => e57 n (by omega) (by omega) (by omega) (by omega))).fr2 (fun k hk => by rw [h8k k (by omega) (by omega), f7 k (by omega)])
  have st8 : St 1 0 δ (st0 δ gg, 0, sd0.2.2.1, 0, sd0.2.2.2.2) im' t' h8 := st7.k1 (fun k hk => h8k k (by omega) (by omega))
  have pl : PL0 δ N pr (hsG G3) (cuG h3) := ⟨dk, ⟨pd5.1, pd5.2.1⟩, pd5.2.2.1⟩
  have lj : LJ G7 δ im' N pr (hsG G3) (cuG h3) 0 0 0 h8 := by
    refine ⟨0, _, t', ⟨Int.le_refl _, Int.le_refl _⟩, ⟨st8, RI_st0, CuS_st0 dk pd5, dh7, T7_st0, rfl, fun i i0 i1 => absurd i1 (by omega)⟩, ⟨⟨Int.le_refl _, Int.le_refl _⟩, Int.le_refl _, Int.le_refl _⟩, ?_, fun _ => ⟨rfl, rfl, rfl⟩, fun z => absurd z (by decide), fun c hc => ?_⟩
    · show (0 : Int) ≤ 60 * 0; decide
    · rw [h8v]
      exact ⟨Int.le_refl _, Int.le_refl (0 : Int)⟩
  exact qL_lawEnd (P := fun x _ => x = 1) hc7 trivial ⟨lg7, ex7_7, ex8_7⟩ ob7 (rm 82032 (by decide)) (fun pc lo x h hd hx => fin G7 pc lo x h 82032 eg07 (by decide) hd hx) (end_l pl hlen7 lj (fun _ => rfl))
end STA
