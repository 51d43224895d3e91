/-! the law's world grows -/
def Live (G : GG) (q : TV) : Prop := q.1 = 3 → q.2 ≠ 0 → (0 ≤ q.2 ∧ q.2 < 100) ∧ G.2.2.1 (400 + q.2.toNat) = 1
def EG (G G' : GG) : Prop := G'.1 = G.1 ∧ G'.2.1 = G.2.1 ∧ G'.2.2.2 = G.2.2.2 ∧ (∀ n, n < 300 → n ≠ 14 → G'.2.2.1 n = G.2.2.1 n) ∧ G'.2.2.1 399 = G.2.2.1 399 ∧ ∀ y, y < 100 → G.2.2.1 (400 + y) = 1 → G'.2.2.1 (400 + y) = 1 ∧ G'.2.2.1 (300 + y) = G.2.2.1 (300 + y)
theorem EG.rf (G : GG) : EG G G := ⟨rfl, rfl, rfl, fun _ _ _ => rfl, rfl, fun _ _ h => ⟨h, rfl⟩⟩
theorem EG.tr {G G' G'' : GG} (a : EG G G') (b : EG G' G'') : EG G G'' := by
  obtain ⟨a1, a2, a3, a4, a5, a6⟩ := a
  obtain ⟨b1, b2, b3, b4, b5, b6⟩ := b
  refine ⟨b1.trans a1, b2.trans a2, b3.trans a3, fun n h1 h2 => (b4 n h1 h2).trans (a4 n h1 h2), b5.trans a5, fun y hy h => ?_⟩
  obtain ⟨c1, c2⟩ := a6 y hy h
  obtain ⟨d1, d2⟩ := b6 y hy c1
  exact ⟨d1, d2.trans c2⟩
theorem Live.eg {G G' : GG} {q : TV} (x : EG G G') (h : Live G q) : Live G' q := fun h1 h2 => by
  obtain ⟨h3, h4⟩ := h h1 h2
  exact ⟨h3, (x.2.2.2.2.2 q.2.toNat (by omega) h4).1⟩
theorem EG.cvq {G G' : GG} {q : TV} (x : EG G G') (ok : okT q) (lv : Live G q) : cv G' q = cv G q := by
  obtain ⟨x1, x2, x3, x4, x5, x6⟩ := x
  obtain ⟨t, v⟩ := q
  have e10 := x4 10 (by decide) (by decide)
  have e12 := x4 12 (by decide) (by decide)
  have e13 := x4 13 (by decide) (by decide)
  match t, ok, lv with
  | 0, _, _ => rfl
  | 1, _, _ => rfl
  | 2, _, _ => rfl
  | 3, _, lv =>
    show (if v = 0 then Value.ref (G'.2.2.1 10) else if G'.2.2.1 (400 + v.toNat) = 0 then Value.null else Value.ref (G'.2.2.1 (300 + v.toNat))) = if v = 0 then Value.ref (G.2.2.1 10) else if G.2.2.1 (400 + v.toNat) = 0 then Value.null else Value.ref (G.2.2.1 (300 + v.toNat))
    by_cases z : v = 0
    · rw [if_pos z, if_pos z, e10]
    · obtain ⟨h3, h4⟩ := lv rfl z
      have h3' : 0 ≤ v ∧ v < 100 := h3
      have h4' : G.2.2.1 (400 + v.toNat) = 1 := h4
      obtain ⟨y1, y2⟩ := x6 v.toNat (by omega) h4'
      rw [if_neg z, if_neg z, y1, y2, h4']
  | 4, _, _ => rfl
  | 5, _, _ => rfl
  | 6, ok, _ =>
    have ok' : 0 ≤ v ∧ v < strN := ok
    have s11 : strN = 11 := rfl
    show Value.ref (G'.2.2.1 (20 + v.toNat)) = Value.ref (G.2.2.1 (20 + v.toNat))
    rw [x4 _ (by omega) (by omega)]
  | 7, ok, _ =>
    have ok' : 0 ≤ v ∧ v < strN := ok
    have s11 : strN = 11 := rfl
    show Value.ref (G'.2.2.1 (40 + v.toNat)) = Value.ref (G.2.2.1 (40 + v.toNat))
    rw [x4 _ (by omega) (by omega)]
  | 8, _, _ =>
    show (if G'.2.2.1 13 = 0 then Value.null else Value.ref (G'.2.2.1 12)) = if G.2.2.1 13 = 0 then Value.null else Value.ref (G.2.2.1 12)
    rw [e12, e13]
  | 9, _, _ => rfl
  | k + 10, _, _ =>
    show Value.ref (G'.1 + kAt k v) = Value.ref (G.1 + kAt k v)
    rw [x1]
def LiveS (G : GG) (l : List TV) : Prop := ∀ q ∈ l, Live G q
theorem LiveS.eg {G G' : GG} {l : List TV} (x : EG G G') (h : LiveS G l) : LiveS G' l := fun q hq => (h q hq).eg x
theorem EG.map {G G' : GG} (x : EG G G') : ∀ {l : List TV}, okS l → LiveS G l → l.map (cv G') = l.map (cv G) := by
  intro l
  induction l with
  | nil => intro _ _; rfl
  | cons q l ih =>
    intro ok lv
    rw [List.map_cons, List.map_cons, x.cvq ok.1 (lv q List.mem_cons_self), ih ok.2 (fun z hz => lv z (List.mem_cons_of_mem _ hz))]
theorem EG.lr {G G' : GG} (x : EG G G') {nL : Nat} {ls : Array Slot} {lo : List TV} (ok : okS lo) (lv : LiveS G lo) (h : LR G nL ls lo) : LR G' nL ls lo := by
  obtain ⟨h1, h2, h3⟩ := h
  refine ⟨h1, h2, fun i q hq n1 => ?_⟩
  obtain ⟨h4, h5⟩ := h3 i q hq n1
  exact ⟨h4, by rw [x.cvq (okS_at ok hq) (lv q (List.mem_of_getElem? hq))]; exact h5⟩
theorem EG.env {G G' : GG} {U : State} {H : Heap} (x : EG G G') (hE : Env G U H) (hD : ∀ h, va_D (va_Aof G') (mkW G' h)) : Env G' U H := by
  obtain ⟨x1, x2, x3, x4, x5, x6⟩ := x
  obtain ⟨h1, h2, h3, h4, h5, h6, ⟨h7, h70, h71⟩, h8, h9, h10⟩ := hE
  have eA : va_Aof G' = va_Aof G := by unfold va_Aof; rw [x1, x5]
  have et : tysOf G' = tysOf G := by unfold tysOf; rw [x4 0 (by decide) (by decide), x4 3 (by decide) (by decide), x4 5 (by decide) (by decide), x4 6 (by decide) (by decide)]
  have e8 : cv G' (8, 0) = cv G (8, 0) := by
    show (if G'.2.2.1 13 = 0 then Value.null else Value.ref (G'.2.2.1 12)) = if G.2.2.1 13 = 0 then Value.null else Value.ref (G.2.2.1 12)
    rw [x4 12 (by decide) (by decide), x4 13 (by decide) (by decide)]
  refine ⟨by rw [x2, et]; exact h1, h2, h3, by rw [x3, x4 10 (by decide) (by decide), x4 11 (by decide) (by decide)]; exact h4, by rw [x1, x4 10 (by decide) (by decide)]; exact h5, by rw [x4 11 (by decide) (by decide)]; exact h6, ⟨?_, by rw [eA]; exact h70, by rw [eA, e8]; exact h71⟩, fun q hq => ?_, by rw [x1]; exact h9, hD⟩
  · rw [eA]
    refine ⟨fun i hi => ?_, fun i j hi hj e => ?_⟩
    · have hi' : i < 11 := hi
      have := h7.1 i hi
      show va_O _ (G'.2.2.1 (20 + i)) _ _ _ ∧ va_OF _ _ _ _ (G'.2.2.1 (20 + i)) _ _ _ ∧ va_OF _ _ _ (.ref (G'.2.2.1 (40 + i))) (G'.2.2.1 (20 + i)) _ _ _ ∧ va_T _ (G'.2.2.1 (40 + i)) _ _ _ _ _
      rw [x4 _ (by omega) (by omega), x4 _ (by omega) (by omega)]
      exact this
    · have hi' : i < 11 := hi
      have hj' : j < 11 := hj
      have e' : G'.2.2.1 (20 + i) = G'.2.2.1 (20 + j) := e
      rw [x4 _ (by omega) (by omega), x4 _ (by omega) (by omega)] at e'
      exact h7.2 i j hi hj e'
  · have := ldc_lt q hq
    rw [x4 _ (by omega) (by omega)]
    exact h8 q hq
theorem EG.vc {G G' : GG} {p : Program} {R : Room} {s : State} {m : MethodId} {args : Array Value} {meth : Method} {c : Code} {own : String} {cc : ByteArray} {nL d : Nat} (x : EG G G') (hc : VC G p R s m args meth c own cc nL d) (hD : ∀ h, va_D (va_Aof G') (mkW G' h)) : VC G' p R s m args meth c own cc nL d :=
  ⟨hc.1, hc.2.1, hc.2.2.1, hc.2.2.2.1, hc.2.2.2.2.1, x.env hc.2.2.2.2.2.1 hD, hc.2.2.2.2.2.2⟩
/-- all lies apart -/
def Dis (G : GG) : Prop :=
  (G.2.2.1 402 = 1 → G.1 + nCell ≤ G.2.2.1 302) ∧
  (∀ x, 3 ≤ x → x < 40 → G.2.2.1 (400 + x) = 1 → G.1 + nCell ≤ G.2.2.1 (300 + x) ∧ (G.2.2.1 402 = 1 → G.2.2.1 (300 + x) < G.2.2.1 302 ∨ G.2.2.1 302 + nCell ≤ G.2.2.1 (300 + x))) ∧
  ∀ x y, 3 ≤ x → x < 40 → 3 ≤ y → y < 40 → G.2.2.1 (400 + x) = 1 → G.2.2.1 (400 + y) = 1 → G.2.2.1 (300 + x) = G.2.2.1 (300 + y) → x = y
theorem mkW_in {G : GG} {h : HP} {i : Nat} {p : Nat × va_E} (hp : (mkW G h)[i]? = some p) : (i < nCell ∧ (mkO G h)[i]? = some p ∧ p.1 = G.1 + i) ∨ (G.2.2.1 402 = 1 ∧ ∃ j, i = nCell + j ∧ j < nCell ∧ (mkO (Gq G) (shq h))[j]? = some p ∧ p.1 = G.2.2.1 302 + j) ∨ ∃ j x, i = nCell + ((qL G h).length + j) ∧ (idsL G)[j]? = some x ∧ p = (G.2.2.1 (300 + x), cellL G x (h (200 + x) 0)) := by
  unfold mkW at hp
  rcases Nat.lt_or_ge i nCell with q | q
  · rw [List.getElem?_append_left (by rw [mkO_len]; exact q)] at hp
    exact Or.inl ⟨q, hp, (mkO_key hp).1⟩
  · rw [List.getElem?_append_right (by rw [mkO_len]; exact q), mkO_len] at hp
    rcases Nat.lt_or_ge (i - nCell) (qL G h).length with r | r
    · rw [List.getElem?_append_left r] at hp
      by_cases z : G.2.2.1 402 = 1
      · have e : qL G h = mkO (Gq G) (shq h) := by unfold qL; rw [if_pos z]
        rw [e] at hp
        have k := mkO_key hp
        exact Or.inr (Or.inl ⟨z, i - nCell, by omega, k.2, hp, k.1⟩)
      · have e : qL G h = [] := by unfold qL; rw [if_neg z]
        rw [e] at r
        exact absurd r (Nat.not_lt_zero _)
    · rw [List.getElem?_append_right r] at hp
      unfold arL at hp
      rw [List.getElem?_map] at hp
      cases hx : (idsL G)[i - nCell - (qL G h).length]? with
      | none => rw [hx] at hp; cases hp
      | some x =>
        rw [hx] at hp
        exact Or.inr (Or.inr ⟨_, x, by omega, hx, (Option.some.inj hp).symm⟩)
theorem ids_at {G : GG} {j x : Nat} (h : (idsL G)[j]? = some x) : x < 40 ∧ 3 ≤ x ∧ G.2.2.1 (400 + x) = 1 := idsL_mem.mp (List.mem_of_getElem? h)
theorem Dis.D {G : GG} (d : Dis G) (hfl : G.2.2.1 399 = 1) (h : HP) : va_D (va_Aof G) (mkW G h) := by
  obtain ⟨d1, d2, d3⟩ := d
  have lq : (qL G h).length = if G.2.2.1 402 = 1 then nCell else 0 := qL_len
  refine ⟨fun i j p q hp hq e => ?_, fun k q hq => ⟨?_, Or.inl hfl⟩⟩
  · rcases mkW_in hp with ⟨a1, -, a3⟩ | ⟨a0, a1, a2, a3, -, a4⟩ | ⟨a1, x, a2, a3, a4⟩
    · rcases mkW_in hq with ⟨b1, -, b3⟩ | ⟨b0, b1, b2, b3, -, b4⟩ | ⟨b1, y, b2, b3, b4⟩
      · omega
      · have := d1 b0; omega
      · obtain ⟨c1, c2, c3⟩ := ids_at b3
        have := (d2 y c2 c1 c3).1
        rw [b4] at e
        have e' : p.1 = G.2.2.1 (300 + y) := e
        omega
    · rcases mkW_in hq with ⟨b1, -, b3⟩ | ⟨b0, b1, b2, b3, -, b4⟩ | ⟨b1, y, b2, b3, b4⟩
      · have := d1 a0; omega
      · omega
      · obtain ⟨c1, c2, c3⟩ := ids_at b3
        have := (d2 y c2 c1 c3).2 a0
        rw [b4] at e
        have e' : p.1 = G.2.2.1 (300 + y) := e
        omega
    · obtain ⟨f1, f2, f3⟩ := ids_at a3
      have dx := d2 x f2 f1 f3
      rw [a4] at e
      rcases mkW_in hq with ⟨b1, -, b3⟩ | ⟨b0, b1, b2, b3, -, b4⟩ | ⟨b1, y, b2, b3, b4⟩
      · have e' : G.2.2.1 (300 + x) = q.1 := e
        omega
      · have e' : G.2.2.1 (300 + x) = q.1 := e
        have := dx.2 b0
        omega
      · obtain ⟨c1, c2, c3⟩ := ids_at b3
        rw [b4] at e
        have e' : G.2.2.1 (300 + x) = G.2.2.1 (300 + y) := e
        have exy := d3 x y f2 f1 c2 c1 f3 c3 e'
        subst exy
        have jl : a1 < (idsL G).length := (List.getElem?_eq_some_iff.mp a3).1
        have := (List.getElem?_inj jl (idsL_nodup G)).mp (a3.trans b3.symm)
        omega
  · rcases mkW_in hq with ⟨b1, -, b3⟩ | ⟨b0, b1, b2, b3, -, b4⟩ | ⟨b1, y, b2, b3, b4⟩
    · omega
    · have := d1 b0; omega
    · obtain ⟨c1, c2, c3⟩ := ids_at b3
      have := (d2 y c2 c1 c3).1
      rw [b4]
      show G.1 ≤ G.2.2.1 (300 + y)
      omega
/-- all lies below -/
def Bnd (G : GG) (z : Nat) : Prop := G.1 + nCell ≤ z ∧ (G.2.2.1 402 = 1 → G.2.2.1 302 + nCell ≤ z) ∧ ∀ y, 3 ≤ y → y < 40 → G.2.2.1 (400 + y) = 1 → G.2.2.1 (300 + y) < z
theorem Bnd_of {G : GG} {h : HP} {D : va_G} {cl : List vw_C} {H : Heap} (hP : va_P D cl (mkW G h) H) : Bnd G H.size := by
  have n0 : 0 < nCell := by decide
  refine ⟨?_, fun h2 => ?_, fun y h3 h4 he => ?_⟩
  · obtain ⟨x, hx⟩ := mkO_ex (G := G) (h := h) (j := nCell - 1) (by omega)
    rw [← mkW_left (by omega)] at hx
    have := (hP _ _ hx).lt
    have this' : G.1 + (nCell - 1) < H.size := this
    omega
  · obtain ⟨x, hx⟩ := mkO_ex (G := Gq G) (h := shq h) (j := nCell - 1) (by omega)
    rw [← mkW_mid h2 (by omega)] at hx
    have := (hP _ _ hx).lt
    have this' : G.2.2.1 302 + (nCell - 1) < H.size := this
    omega
  · obtain ⟨q, hq, -⟩ := mkW_law G h h3 h4 he
    exact (hP _ _ hq).lt
def SG (G : GG) : Prop := G.2.2.1 399 = 1 ∧ Dis G
theorem SG.D {G : GG} (sg : SG G) (h : HP) : va_D (va_Aof G) (mkW G h) := sg.2.D sg.1 h
/-- what is new lies behind -/
theorem SG_new {G G' : GG} {z : Nat} (sg : SG G) (b : Bnd G z) (x : EG G G') (o2 : G'.2.2.1 302 = G.2.2.1 302 ∧ G'.2.2.1 402 = G.2.2.1 402) (ids : ∀ y, 3 ≤ y → y < 40 → G'.2.2.1 (400 + y) = 1 → G.2.2.1 (400 + y) = 1 ∨ z ≤ G'.2.2.1 (300 + y))
    (inj : ∀ y y', 3 ≤ y → y < 40 → 3 ≤ y' → y' < 40 → G'.2.2.1 (400 + y) = 1 → G'.2.2.1 (400 + y') = 1 → z ≤ G'.2.2.1 (300 + y) → G'.2.2.1 (300 + y) = G'.2.2.1 (300 + y') → y = y') : SG G' := by
  obtain ⟨s1, d1, d2, d3⟩ := sg
  obtain ⟨b1, b2, b3⟩ := b
  obtain ⟨x1, x2, x3, x4, x5, x6⟩ := x
  obtain ⟨o21, o22⟩ := o2
  refine ⟨x5.trans s1, fun h2 => ?_, fun y y3 y4 he => ?_, fun y y' y3 y4 y3' y4' he he' e => ?_⟩
  · rw [o22] at h2; rw [x1, o21]; exact d1 h2
  · rw [x1, o21, o22]
    rcases ids y y3 y4 he with w | w
    · rw [(x6 y (by omega) w).2]; exact d2 y y3 y4 w
    · exact ⟨by omega, fun h2 => by have := b2 h2; omega⟩
  · rcases ids y y3 y4 he with w | w
    · rcases ids y' y3' y4' he' with w' | w'
      · rw [(x6 y (by omega) w).2, (x6 y' (by omega) w').2] at e
        exact d3 y y' y3 y4 y3' y4' w w' e
      · exact (inj y' y y3' y4' y3 y4 he' he w' e.symm).symm
    · exact inj y y' y3 y4 y3' y4' he he' w e
def slL (G : GG) (y j : Nat) : Option Nat := if G.2.2.1 (520 + 3 * (y - 10) + j) = 0 then none else some (G.2.2.1 (320 + 3 * (y - 10) + j))
def KeepC (G G' : GG) (y : Nat) : Prop := lnL G' y = lnL G y ∧ (y = 5 → ∀ j, j < lnL G y → G'.2.2.1 (310 + j) = G.2.2.1 (310 + j)) ∧ ((y = 6 ∨ (10 ≤ y ∧ y < 20)) → ∀ j, j < lnL G y → slL G' y j = slL G y j)
theorem arrV_cg {c : ClassId} {n : Nat} {f g : Nat → Value} (e : ∀ j, j < n → f j = g j) : arrV c n f = arrV c n g := by
  unfold arrV
  congr 2
  funext j
  exact e j.1 j.2
theorem cellL_keep {G G' : GG} {D : va_G} {cl : List vw_C} {a y : Nat} {f : Int → Int} {H : Heap} (x : EG G G') (k : KeepC G G' y) (h : va_at D cl (a, cellL G y f) H) : va_at D cl (a, cellL G' y f) H := by
  obtain ⟨k1, k2, k3⟩ := k
  have e0 := x.2.2.2.1 0 (by decide) (by decide)
  have e5 := x.2.2.2.1 5 (by decide) (by decide)
  have e6 := x.2.2.2.1 6 (by decide) (by decide)
  unfold cellL at h ⊢
  by_cases c5 : y = 5
  · rw [if_pos c5] at h ⊢
    have h' : H[a]? = some (vp_cell (G.2.2.1 6) (lnL G y, .inr (.inr (.inr (.inr (fun j : Nat => some (G.2.2.1 (310 + j)))))))) := h
    show H[a]? = some (vp_cell (G'.2.2.1 6) (lnL G' y, .inr (.inr (.inr (.inr (fun j : Nat => some (G'.2.2.1 (310 + j))))))))
    rw [h', k1, e6, vp_cell_q, vp_cell_q]
    congr 1
    exact arrV_cg (fun j hj => by show va_rf (some _) = va_rf (some _); rw [k2 c5 j hj])
  · rw [if_neg c5] at h ⊢
    by_cases c6 : y = 6 ∨ (10 ≤ y ∧ y < 20)
    · rw [if_pos c6] at h ⊢
      have h' : H[a]? = some (vp_cell (G.2.2.1 5) (lnL G y, .inr (.inr (.inr (.inr (slL G y)))))) := h
      show H[a]? = some (vp_cell (G'.2.2.1 5) (lnL G' y, .inr (.inr (.inr (.inr (slL G' y))))))
      rw [h', k1, e5, vp_cell_q, vp_cell_q]
      congr 1
      exact arrV_cg (fun j hj => by show va_rf _ = va_rf _; rw [k3 c6 j hj])
    · rw [if_neg c6] at h ⊢
      rw [k1, e0]
      exact h
theorem ext_P {G G' : GG} {h h' : HP} {H H' : Heap} (x : EG G G') (hP : va_P G.2.1 vwCl (mkW G h) H) (old : ∀ q, q < H.size → H'[q]? = H[q]?) (o2 : G'.2.2.1 302 = G.2.2.1 302 ∧ G'.2.2.1 402 = G.2.2.1 402) (eh : ∀ k, k < 148 → h' k = h k)
    (ids : ∀ y, 3 ≤ y → y < 40 → G'.2.2.1 (400 + y) = 1 → (G.2.2.1 (400 + y) = 1 ∧ KeepC G G' y ∧ h' (200 + y) 0 = h (200 + y) 0) ∨ va_at G.2.1 vwCl (G'.2.2.1 (300 + y), cellL G' y (h' (200 + y) 0)) H') : va_P G'.2.1 vwCl (mkW G' h') H' := by
  have x2 := x.2.1
  have e0 := x.2.2.2.1 0 (by decide) (by decide)
  have e3 := x.2.2.2.1 3 (by decide) (by decide)
  rw [x2]
  intro i p hp
  have keep : ∀ {j : Nat}, (mkW G h)[j]? = some p → va_at G.2.1 vwCl p H' := fun {j} hj => (hP j p hj).kept (old _ (hP j p hj).lt)
  rcases mkW_in hp with ⟨a1, a2, -⟩ | ⟨a0, a1, a2, a3, a4, -⟩ | ⟨a1, y, a2, a3, a4⟩
  · rw [mkO_far (h := h) (fun k hk => eh k (by omega)), mkO_cong (G' := G') (G := G) x.1 e0 e3, ← mkW_left a1] at a2
    exact keep a2
  · have z2 : G.2.2.1 402 = 1 := by rw [← o2.2]; exact a0
    have eq : mkO (Gq G') (shq h') = mkO (Gq G) (shq h) := by
      rw [mkO_cong (G' := Gq G') (G := Gq G) o2.1 ?_ ?_, mkO_far (h := shq h) (fun k hk => by show h' (k + 100) = h (k + 100); exact eh _ (by omega))]
      · show (if 399 ≤ 0 then 0 else G'.2.2.1 0) = if 399 ≤ 0 then 0 else G.2.2.1 0
        rw [if_neg (by decide), if_neg (by decide), e0]
      · show (if 399 ≤ 3 then 0 else G'.2.2.1 3) = if 399 ≤ 3 then 0 else G.2.2.1 3
        rw [if_neg (by decide), if_neg (by decide), e3]
    rw [eq, ← mkW_mid z2 a3] at a4
    exact keep a4
  · obtain ⟨f1, f2, f3⟩ := ids_at a3
    rcases ids y f2 f1 f3 with ⟨w1, w2, w3⟩ | w
    · obtain ⟨q, hq, -⟩ := mkW_law G h f2 f1 w1
      have h1 := (hP q _ hq).kept (old _ (hP q _ hq).lt)
      have h2 := cellL_keep x w2 h1
      rw [a4, (x.2.2.2.2.2 y (by omega) w1).2, w3]
      exact h2
    · rw [a4]; exact w
