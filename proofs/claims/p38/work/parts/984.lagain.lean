/-! queries at an object -/
theorem XF_no {k : Nat} {h : HP} {p : Prop} (q : p) (n : ¬ p) : XF k h := absurd q n
def FrB (o : Int) (h h' : HP) : Prop := ∀ k : Nat, (k < 100 * (o - 1).toNat ∨ 100 * (o - 1).toNat + 100 ≤ k) → h' k = h k
theorem FrB.rf (o : Int) (h : HP) : FrB o h h := fun _ _ => rfl
theorem FrB.tr {o : Int} {h h' h'' : HP} (a : FrB o h h') (b : FrB o h' h'') : FrB o h h'' := fun k q => by rw [b k q, a k q]
theorem FrB.pt {o : Int} {h g : HP} : FrB o h (pt o h g) := fun _ q => pt_out q
def St (o K : Int) (π : PL) (s : SD) (im : IM) (t : TX) (h : HP) : Prop := WA π K s im t ∧ CI (ob o h) π s im t
theorem St.n12 {o K : Int} {π : PL} {s : SD} {im : IM} {t : TX} {h : HP} (a : St o K π s im t h) : π 0 0 ≤ 12 := a.1.1.1.2.1
theorem St.fq {o K : Int} {π : PL} {s : SD} {im : IM} {t : TX} {h g : HP} (a : St o K π s im t h) (f : FrQC (ob o h) g) : St o K π s im t (pt o h g) := ⟨a.1, CI_pt (a.2.q f)⟩
theorem St.cg {o K : Int} {π : PL} {s : SD} {im : IM} {t : TX} {h h' : HP} (a : St o K π s im t h) (e : ∀ k, k < 49 → h' (k + 100 * (o - 1).toNat) = h (k + 100 * (o - 1).toNat)) : St o K π s im t h' :=
  ⟨a.1, a.2.cg (fun k i hk => by
    have := hk.lt
    show h' (k + 100 * (o - 1).toNat) i = h (k + 100 * (o - 1).toNat) i
    rw [e k this])⟩
theorem of_o {o K c b v : Int} {π : PL} {s : SD} {im : IM} {t : TX} {h : HP} {P : Int → HP → Prop} (a : St o K π s im t h) (hc : 0 ≤ c ∧ c < π 0 0) (hb : inR b) (hv : ofV π s.1 c b = (0, v)) (kk : ∀ h', FrB o h h' → St o K π s im t h' → P v h') : wX11_of 0 c b (ob o h) (fun x g => ∀ h1 : HP, h1 = pt o h g → P x h1) XF := by
  have n12 := a.n12
  refine of_c (a.2.lx a.1) (by unfold inR; omega) hb (fun g x f e h1 e1 => ?_) (fun g f e => ?_)
  · rw [hv] at e
    have ev : v = x := congrArg Prod.snd e
    subst ev
    subst e1
    exact kk _ FrB.pt (a.fq f)
  · rw [hv] at e
    exact absurd (show (0 : Int) = 1 from congrArg Prod.fst e) (by decide)
theorem count_o {o K b v : Int} {π : PL} {s : SD} {im : IM} {t : TX} {h : HP} {P : Int → HP → Prop} (a : St o K π s im t h) (hb : inR b) (hv : countV π s t b = (0, v)) (kk : ∀ h', FrB o h h' → St o K π s im t h' → P v h') : wX11_count 0 b (ob o h) (fun x g => ∀ h1 : HP, h1 = pt o h g → P x h1) XF := by
  refine count_c a.1 a.2 hb (fun g x f e h1 e1 => ?_) (fun g f e => ?_)
  · rw [hv] at e
    have ev : v = x := congrArg Prod.snd e
    subst ev
    subst e1
    exact kk _ FrB.pt (a.fq f)
  · rw [hv] at e
    exact absurd (show (0 : Int) = 1 from congrArg Prod.fst e) (by decide)
/-! what is told of a class, as a list -/
def TL (t : TT) (L : List Int) : Prop := t.1 = (L.length : Int) ∧ ∀ j : Nat, j < L.length → t.2 (j : Int) = L.getD j 0
theorem getD_app {A B : List Int} {j : Nat} : (A ++ B).getD j 0 = if j < A.length then A.getD j 0 else B.getD (j - A.length) 0 := by
  rw [List.getD_eq_getElem?_getD]
  by_cases c : j < A.length
  · rw [if_pos c, List.getElem?_append_left c, List.getD_eq_getElem?_getD]
  · rw [if_neg c, List.getElem?_append_right (by omega), List.getD_eq_getElem?_getD]
theorem TL.sg {t : TT} {L : List Int} {v : Int} (q : TL t L) : TL (sgA v t) (L ++ [v]) := by
  obtain ⟨q1, q2⟩ := q
  have el : (L ++ [v]).length = L.length + 1 := by rw [List.length_append]; rfl
  refine ⟨by show t.1 + 1 = _; rw [q1, el]; omega, fun j hj => ?_⟩
  rw [el] at hj
  show (if (j : Int) = t.1 then v else t.2 j) = _
  rw [getD_app]
  by_cases c : (j : Int) = t.1
  · have ej : j = L.length := by omega
    subst ej
    rw [if_pos c, if_neg (Nat.lt_irrefl _), Nat.sub_self]
    rfl
  · rw [if_neg c, if_pos (by omega)]
    exact q2 j (by omega)
theorem TL.str {s : Int} {t : TT} {L : List Int} (q : TL t L) : ∀ m : Nat, TL (strA s t m) (L ++ (List.range m).map (fun i : Nat => strC s (i : Int))) := by
  intro m
  induction m with
  | zero => show TL t (L ++ []); rw [List.append_nil]; exact q
  | succ m ih =>
    rw [List.range_succ, List.map_append, ← List.append_assoc]
    exact ih.sg
theorem TL.num {v : Int} {t : TT} {L : List Int} (q : TL t L) (hv : 0 ≤ v ∧ v ≤ 999) : TL (numA v t) (L ++ 32 :: dg v) := by
  unfold numA dg
  by_cases a : v < 10
  · rw [if_pos a, if_pos (by omega), if_neg (by omega), if_neg (by omega), show 48 + v % 10 = 48 + v by omega]
    have := (q.sg (v := 32)).sg (v := 48 + v)
    rw [List.append_assoc] at this
    exact this
  · rw [if_neg a]
    by_cases b : v < 100
    · rw [if_pos b, if_neg (by omega), if_pos (by omega), show 48 + v / 10 % 10 = 48 + v / 10 by omega]
      have := ((q.sg (v := 32)).sg (v := 48 + v / 10)).sg (v := 48 + v % 10)
      rw [List.append_assoc, List.append_assoc] at this
      exact this
    · rw [if_neg b, if_pos (by omega), show 48 + v / 100 % 10 = 48 + v / 100 by omega]
      have := (((q.sg (v := 32)).sg (v := 48 + v / 100)).sg (v := 48 + v / 10 % 10)).sg (v := 48 + v % 10)
      rw [List.append_assoc, List.append_assoc, List.append_assoc] at this
      exact this
theorem w3_l : (List.range 5).map (fun i : Nat => strC 3 (i : Int)) = wd 3 := by decide +kernel
theorem w6_l : (List.range 3).map (fun i : Nat => strC 6 (i : Int)) = 32 :: wd 5 := by decide +kernel
theorem w7_l : (List.range 1).map (fun i : Nat => strC 7 (i : Int)) = [59] := by decide +kernel
theorem w8_l : ∀ k : Nat, k < 3 → (List.range 6).map (fun i : Nat => strC (8 + (k : Int)) (i : Int)) = 32 :: wd k := by decide +kernel
/-- the curves of a state, as the arrays have them -/
def CuS (σ : ST) (N : Nat) (hs : Nat → Nat → Bool) (cu : Nat → Nat → Int × Int × Int) : Prop := ∀ c k : Nat, c < N → k < 3 → (hs c k = true → σ 9 (3 * (c : Int) + (k : Int)) 0 = (cu c k).1 ∧ σ 10 (3 * (c : Int) + (k : Int)) 0 = (cu c k).2.1 ∧ σ 11 (3 * (c : Int) + (k : Int)) 0 = (cu c k).2.2) ∧ (hs c k = false → σ 11 (3 * (c : Int) + (k : Int)) 0 = 0)
section AGN
variable {N : Nat} {pr : Nat → Int} {hs : Nat → Nat → Bool} {cu : Nat → Nat → Int × Int × Int}
theorem CuS_st0 {δ : PL} {gg : Nat → Int → Int → Int} (dk : DatOK N pr hs cu) (pd : PlanD δ N pr hs cu) : CuS (st0 δ gg) N hs cu := by
  intro c k hc hk
  obtain ⟨p1, p2⟩ := pd.2.2.2 c k hc hk
  refine ⟨fun on => ?_, fun off => p2 off⟩
  have w := (dk.2 c hc).2.2 k hk on
  unfold wq wellC at w
  obtain ⟨e6, e7, e8⟩ := p1 on
  refine ⟨?_, ?_, e8⟩
  · show (if 0 < δ 8 (3 * (c : Int) + (k : Int)) then δ 6 (3 * (c : Int) + (k : Int)) else gg 9 (3 * (c : Int) + (k : Int)) 0) = _
    rw [if_pos (by omega)]; exact e6
  · show (if 0 < δ 8 (3 * (c : Int) + (k : Int)) then δ 7 (3 * (c : Int) + (k : Int)) else gg 10 (3 * (c : Int) + (k : Int)) 0) = _
    rw [if_pos (by omega)]; exact e7
theorem curT_l {σ : ST} {c k : Nat} {t : TT} {L : List Int} (dk : DatOK N pr hs cu) (cs : CuS σ N hs cu) (hc : c < N) (hk : k < 3) (q : TL t L) : TL (curT σ (c : Int) (k : Int) t) (L ++ onT (hs c k) (cuT ((k : Int), cu c k))) := by
  obtain ⟨p1, p2⟩ := cs c k hc hk
  unfold curT onT
  cases z : hs c k with
  | false =>
    rw [if_neg (by rw [p2 z]; decide), if_neg (by decide), List.append_nil]
    exact q
  | true =>
    have w := (dk.2 c hc).2.2 k hk z
    unfold wq wellC at w
    obtain ⟨e6, e7, e8⟩ := p1 z
    rw [e6, e7, e8, if_pos (by omega), if_pos rfl]
    have r := (((q.str (s := 8 + (k : Int)) 6).num (v := (cu c k).1) (by omega)).num (v := (cu c k).2.1) (by omega)).num (v := (cu c k).2.2) (by omega)
    rw [w8_l k hk] at r
    have e : cuT ((k : Int), cu c k) = 32 :: wd k ++ (32 :: dg (cu c k).1 ++ (32 :: dg (cu c k).2.1 ++ 32 :: dg (cu c k).2.2)) := by
      unfold cuT c3
      show 32 :: (wd ((k : Int)).toNat ++ 32 :: (dg (cu c k).1 ++ 32 :: (dg (cu c k).2.1 ++ 32 :: dg (cu c k).2.2))) = _
      rw [show ((k : Int)).toNat = k by omega]
      rfl
    rw [e]
    rw [List.append_assoc, List.append_assoc, List.append_assoc] at r
    exact r
theorem hdT_l {π : PL} {c : Int} (hp : π 1 c = 12 ∨ (0 ≤ π 1 c ∧ π 1 c ≤ 11)) : TL (hdT π c) (wd 3 ++ (if π 1 c = 12 then [] else 32 :: (wd 5 ++ 32 :: dg (π 1 c)))) := by
  have z : TL ((0 : Int), fun _ => (0 : Int)) [] := ⟨rfl, fun j hj => absurd hj (Nat.not_lt_zero j)⟩
  have a := z.str (s := 3) 5
  rw [w3_l, List.nil_append] at a
  unfold hdT
  by_cases z2 : π 1 c = 12
  · rw [if_pos z2, if_pos z2, List.append_nil]; exact a
  · rw [if_neg z2, if_neg z2]
    have b := (a.str (s := 6) 3).num (v := π 1 c) (by have := hp.resolve_left z2; omega)
    rw [w6_l, List.append_assoc] at b
    exact b
theorem flatA (c : Nat) : (clsA hs cu c).flatMap cuT ++ [59] = onT (hs c 0) (cuT (0, cu c 0)) ++ (cuT (1, cu c 1) ++ (onT (hs c 2) (cuT (2, cu c 2)) ++ [59])) := by
  unfold clsA onT
  cases b : hs c 0 <;> cases d : hs c 2
  all_goals
    simp
theorem toldT_l {π : PL} {σ : ST} {c : Nat} (dk : DatOK N pr hs cu) (cs : CuS σ N hs cu) (hc : c < N) (ep : π 1 (c : Int) = pr c) : TL (toldT π σ (c : Int)) (clT (pr c) (clsA hs cu c)) := by
  obtain ⟨p, h1, -⟩ := dk.2 c hc
  have n6 := dk.1
  have a := hdT_l (π := π) (c := (c : Int)) (by rw [ep]; rcases p with z | z <;> omega)
  rw [ep] at a
  have a0 := curT_l (k := 0) dk cs hc (by decide) a
  have a1 := curT_l (k := 1) dk cs hc (by decide) a0
  have a2 := curT_l (k := 2) dk cs hc (by decide) a1
  have a3 := a2.str (s := 7) 1
  rw [w7_l] at a3
  have e : clT (pr c) (clsA hs cu c) = wd 3 ++ ((if pr c = 12 then [] else 32 :: (wd 5 ++ 32 :: dg (pr c))) ++ ((clsA hs cu c).flatMap cuT ++ [59])) := rfl
  rw [e, flatA]
  have e1 : onT (hs c 1) (cuT (((1 : Nat) : Int), cu c 1)) = cuT (1, cu c 1) := by unfold onT; rw [if_pos h1]; rfl
  rw [e1] at a3
  simp only [List.append_assoc] at a3
  exact a3
theorem byt_wd : ∀ s : Nat, s < 6 → ∀ x ∈ wd s, 0 ≤ x ∧ x ≤ 255 := by decide +kernel
theorem byt_dg {v : Int} (hv : 0 ≤ v ∧ v ≤ 999) : ∀ x ∈ dg v, 0 ≤ x ∧ x ≤ 255 := by
  intro x hx
  obtain ⟨j, hj, e⟩ := List.getElem_of_mem hx
  have := dg_at hv j hj
  rw [List.getD_eq_getElem?_getD, List.getElem?_eq_getElem hj] at this
  have e' : (some ((dg v)[j])).getD 0 = x := e
  rw [e'] at this
  unfold tDg at this
  omega
def Byt (L : List Int) : Prop := ∀ x ∈ L, 0 ≤ x ∧ x ≤ 255
theorem Byt.app {A B : List Int} (a : Byt A) (b : Byt B) : Byt (A ++ B) := fun x hx => by
  rcases List.mem_append.mp hx with z | z
  · exact a x z
  · exact b x z
theorem Byt.cons {v : Int} {B : List Int} (a : 0 ≤ v ∧ v ≤ 255) (b : Byt B) : Byt (v :: B) := fun x hx => by
  rcases List.mem_cons.mp hx with z | z
  · rw [z]; exact a
  · exact b x z
theorem Byt.nil : Byt [] := fun x hx => by cases hx
theorem byt_cu {q : CQ} (hq : (0 ≤ q.1 ∧ q.1 ≤ 2) ∧ wellC q.2.1 q.2.2.1 q.2.2.2) : Byt (cuT q) := by
  obtain ⟨h1, h2⟩ := hq
  unfold wellC at h2
  unfold cuT c3
  exact Byt.cons (by decide) (Byt.app (byt_wd _ (by omega)) (Byt.cons (by decide) (Byt.app (byt_dg (by omega)) (Byt.cons (by decide) (Byt.app (byt_dg (by omega)) (Byt.cons (by decide) (byt_dg (by omega))))))))
theorem byt_fl : ∀ {cl : List CQ}, (∀ q ∈ cl, (0 ≤ q.1 ∧ q.1 ≤ 2) ∧ wellC q.2.1 q.2.2.1 q.2.2.2) → Byt (cl.flatMap cuT) := by
  intro cl
  induction cl with
  | nil => intro _; exact Byt.nil
  | cons q cl ih =>
    intro h
    rw [List.flatMap_cons]
    exact Byt.app (byt_cu (h q List.mem_cons_self)) (ih (fun x hx => h x (List.mem_cons_of_mem _ hx)))
theorem byt_clT {i : Int} {cl : List CQ} (hi : i = 12 ∨ (0 ≤ i ∧ i ≤ 11)) (h : ∀ q ∈ cl, (0 ≤ q.1 ∧ q.1 ≤ 2) ∧ wellC q.2.1 q.2.2.1 q.2.2.2) : Byt (clT i cl) := by
  unfold clT
  refine Byt.app (byt_wd 3 (by decide)) (Byt.app ?_ (Byt.app (byt_fl h) (Byt.cons (by decide) Byt.nil)))
  by_cases c : i = 12
  · rw [if_pos c]; exact Byt.nil
  · rw [if_neg c]
    exact Byt.cons (by decide) (Byt.app (byt_wd 5 (by decide)) (Byt.cons (by decide) (byt_dg (by have := hi.resolve_left c; omega))))
theorem clT_ends {i : Int} {cl : List CQ} : (clT i cl).getD ((clT i cl).length - 1) 0 = 59 ∧ (clT i cl).getD 0 0 = 99 := by
  have h3 : (wd 3).length = 5 := by decide +kernel
  constructor
  · have e : clT i cl = (wd 3 ++ ((if i = 12 then [] else 32 :: (wd 5 ++ 32 :: dg i)) ++ cl.flatMap cuT)) ++ [59] := by
      unfold clT
      simp only [List.append_assoc]
    rw [e, List.length_append]
    show (_ ++ [59]).getD (_ + 1 - 1) 0 = 59
    rw [Nat.add_sub_cancel, getD_app, if_neg (Nat.lt_irrefl _), Nat.sub_self]
    rfl
  · unfold clT
    rw [getD_app, if_pos (by omega)]
    decide +kernel
theorem told_n {o K : Int} {c : Nat} {π : PL} {s : SD} {im : IM} {t : TX} {h : HP} {L : List Int} {P : Int → HP → Prop} (a : St o K π s im t h) (hc : (c : Int) < π 0 0) (q : TL (toldT π s.1 (c : Int)) L) (kk : ∀ h', FrB o h h' → St o K π s im t h' → P (L.length : Int) h') : wX11_told 0 (c : Int) (-1) (ob o h) (fun x g => ∀ h1 : HP, h1 = pt o h g → P x h1) XF := by
  have n12 := a.n12
  have tl := toldT_len (π := π) (σ := s.1) (c := (c : Int))
  have hv : toldV π s.1 (c : Int) (-1) = (0, (L.length : Int)) := by unfold toldV; rw [if_pos ⟨⟨by omega, hc⟩, by omega, by omega⟩, if_pos rfl, q.1]
  refine told_c (a.2.lx a.1) (by unfold inR; omega) (by unfold inR; omega) (fun g x f e h1 e1 => ?_) (fun g f e => ?_)
  · rw [hv] at e
    have ev : (L.length : Int) = x := congrArg Prod.snd e
    subst ev
    subst e1
    exact kk _ FrB.pt (a.fq f)
  · rw [hv] at e
    exact absurd (show (0 : Int) = 1 from congrArg Prod.fst e) (by decide)
theorem told_j {o K i : Int} {c : Nat} {π : PL} {s : SD} {im : IM} {t : TX} {h : HP} {L : List Int} {P : Int → HP → Prop} (a : St o K π s im t h) (hc : (c : Int) < π 0 0) (q : TL (toldT π s.1 (c : Int)) L) (j : Nat) (hj : j < L.length) (ei : i = (j : Int)) (kk : ∀ h', FrB o h h' → St o K π s im t h' → P (L.getD j 0) h') : wX11_told 0 (c : Int) i (ob o h) (fun x g => ∀ h1 : HP, h1 = pt o h g → P x h1) XF := by
  have n12 := a.n12
  have tl := toldT_len (π := π) (σ := s.1) (c := (c : Int))
  subst ei
  have hv : toldV π s.1 (c : Int) (j : Int) = (0, L.getD j 0) := by unfold toldV; rw [if_pos ⟨⟨by omega, hc⟩, by omega, by rw [q.1]; omega⟩, if_neg (by omega), q.2 j hj]
  have lt := q.1
  refine told_c (a.2.lx a.1) (by unfold inR; omega) (by unfold inR; omega) (fun g x f e h1 e1 => ?_) (fun g f e => ?_)
  · rw [hv] at e
    have ev : L.getD j 0 = x := congrArg Prod.snd e
    subst ev
    subst e1
    exact kk _ FrB.pt (a.fq f)
  · rw [hv] at e
    exact absurd (show (0 : Int) = 1 from congrArg Prod.fst e) (by decide)
end AGN
