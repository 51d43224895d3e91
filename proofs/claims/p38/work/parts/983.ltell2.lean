/-! tell, formula by formula -/
theorem say_cl : sayB 427020088179 5 = wd 3 := by decide +kernel
theorem say_in : sayB 543780384 4 = 32 :: (wd 5 ++ [32]) := by decide +kernel
theorem say_sh : sayB 35680044544613 6 = 32 :: wd 1 := by decide +kernel
theorem say_gr : sayB 35628672708212 6 = 32 :: wd 0 := by decide +kernel
theorem say_up : sayB 35688769676658 6 = 32 :: wd 2 := by decide +kernel
section TEL
variable {G : GG} {K : Int} {π : PL} {s : SD} {im : IM} {u : Int × (Int → Int)} {N : Nat} {pr : Nat → Int} {hs : Nat → Nat → Bool} {cu : Nat → Nat → Int × Int × Int} {c : Nat} {M : List Int} {h : HP} {K3 : Int → HP → Prop}
theorem FrO.hi {h h' : HP} (f : FrO 1 h h') : ∀ k, 204 ≤ k → h' k = h k := fun k hk => f k (Or.inr (by show 100 * 0 + 100 ≤ k; omega)) (by omega)
theorem ex_c (dk : DatOK N pr hs cu) (dh : DatH G h N pr hs cu) (hc : c < N) {k : Nat} (hk : k < 3) (on : hs c k = true) {x : Int} (hx : x = 20 + 3 * (c : Int) + (k : Int)) : exL G x ∧ kd x = 220 + 3 * c + k ∧ 20 ≤ x := by
  have n6 := dk.1.2
  have e := (dh.2.2 c k hc hk).1 on
  refine ⟨⟨by omega, ?_, by rw [dh.1]; exact n6⟩, by unfold kd; omega, by omega⟩
  rw [show 400 + x.toNat = 420 + 3 * c + k by omega]
  exact e.1
theorem np_c (dh : DatH G h N pr hs cu) (hc : c < N) : 0 ≤ (c : Int) ∧ (c : Int) < npI G := by
  unfold npI
  rw [dh.1]
  omega
theorem cur_s {v X : Int} {R : HP → Prop} {k : Nat} (dk : DatOK N pr hs cu) (dh : DatH G h N pr hs cu) (hc : c < N) (hk : k < 3) (on : hs c k = true) (hX : X = 20 + 3 * (c : Int) + (k : Int)) (hm : (v, 6) ∈ sayL) (hv : sayB v 6 = 32 :: wd k) (q : Buf 1 K π s im u M h) (hl : M.length + 20 ≤ 700) (kk : ∀ h', FrO 1 h h' → Buf 1 K π s im u (M ++ cuT ((k : Int), cu c k)) h' → R h') :
    wL_say G 1 v 6 h (fun h1 => (0 ≤ (c : Int) ∧ (c : Int) < (npI G)) ∧ (0 ≤ (c : Int) ∧ (c : Int) < (npI G)) ∧ exL G X ∧ (20 ≤ X) ∧ (0 ≤ (c : Int) ∧ (c : Int) < (npI G)) ∧ (0 ≤ (c : Int) ∧ (c : Int) < (npI G)) ∧ exL G X ∧ (20 ≤ X) ∧ (0 ≤ (c : Int) ∧ (c : Int) < (npI G)) ∧ (0 ≤ (c : Int) ∧ (c : Int) < (npI G)) ∧ exL G X ∧ (20 ≤ X) ∧ wL_three G 1 (h1 (kd X) 0 0) (h1 (kd X) 0 1) (h1 (kd X) 0 2) h1 R) := by
  have b := np_c dh hc
  obtain ⟨e1, e2, e3⟩ := ex_c dk dh hc hk on hX
  refine say_s (Or.inl rfl) hm q (by show M.length + 6 ≤ 700; omega) (fun h1 f1 q1 => ?_)
  have dh1 := dh.fr f1.hi
  obtain ⟨-, v0, v1, v2⟩ := (dh1.2.2 c k hc hk).1 on
  rw [e2, v0, v1, v2]
  refine ⟨b, b, e1, e3, b, b, e1, e3, b, b, e1, e3, ?_⟩
  have hv' : sayB v (6 : Int).toNat = 32 :: wd k := hv
  rw [hv'] at q1
  have wl := wd_len k (by omega)
  refine three_s (Or.inl rfl) ((dk.2 c hc).2.2 k hk on) q1 (by rw [List.length_append, List.length_cons]; omega) (fun h2 f2 q2 => kk h2 (f1.tr f2) ?_)
  rw [List.append_assoc] at q2
  have ek : ((k : Int)).toNat = k := by omega
  have e : cuT ((k : Int), cu c k) = 32 :: wd k ++ c3 (cu c k).1 (cu c k).2.1 (cu c k).2.2 := by
    unfold cuT
    show 32 :: (wd ((k : Int)).toNat ++ c3 (cu c k).1 (cu c k).2.1 (cu c k).2.2) = _
    rw [ek]
    rfl
  rw [e]
  exact q2
theorem t216_s (q : Buf 1 K π s im u M h) (hl : M.length < 700) (kk : ∀ h', FrO 1 h h' → Buf 1 K π s im u (M ++ [59]) h' → K3 ((c : Int) + 1) h') : wL_tell_216 G (c : Int) K3 h := by
  unfold wL_tell_216
  exact add_s (Or.inl rfl) q hl (by decide) kk
theorem off_c (dh : DatH G h N pr hs cu) (hc : c < N) {k : Nat} (hk : k < 3) {x : Int} (hx : x = 20 + 3 * (c : Int) + (k : Int)) : (G.2.2.1 (400 + x.toNat) = 0 → hs c k = false) ∧ (¬ G.2.2.1 (400 + x.toNat) = 0 → hs c k = true) := by
  have e := dh.2.2 c k hc hk
  rw [show 400 + x.toNat = 420 + 3 * c + k by omega]
  cases z : hs c k with
  | true => exact ⟨fun w => by have := (e.1 z).1; omega, fun _ => rfl⟩
  | false => exact ⟨fun _ => rfl, fun w => absurd (e.2 z) w⟩
def onT (b : Bool) (L : List Int) : List Int := if b = true then L else []
theorem t168_s (dk : DatOK N pr hs cu) (dh : DatH G h N pr hs cu) (hc : c < N) (q : Buf 1 K π s im u M h) (hl : M.length + 20 ≤ 700) (kk : ∀ h', FrO 1 h h' → Buf 1 K π s im u (M ++ (onT (hs c 2) (cuT (2, cu c 2)) ++ [59])) h' → K3 ((c : Int) + 1) h') : wL_tell_168 G (c : Int) K3 h := by
  have b := np_c dh hc
  have o := off_c dh hc (k := 2) (by decide) (x := 20 + 3 * (c : Int) + 2) rfl
  unfold wL_tell_168
  refine ⟨b, b, by omega, fun z => ?_, fun z => ?_⟩
  · refine t216_s q (by omega) (fun h1 f1 q1 => kk h1 f1 ?_)
    rw [o.1 z]
    exact q1
  · have on := o.2 z
    refine cur_s (k := 2) dk dh hc (by decide) on rfl (by decide) say_up q hl (fun h1 f1 q1 => ?_)
    have cl := cuT_len (2, cu c 2) (show (0 : Int) ≤ 2 ∧ (2 : Int) ≤ 2 by decide)
    refine t216_s (M := M ++ cuT (2, cu c 2)) q1 (by rw [List.length_append]; omega) (fun h2 f2 q2 => kk h2 (f1.tr f2) ?_)
    rw [on]
    rw [List.append_assoc] at q2
    exact q2
theorem t120_s (dk : DatOK N pr hs cu) (dh : DatH G h N pr hs cu) (hc : c < N) (q : Buf 1 K π s im u M h) (hl : M.length + 40 ≤ 700) (kk : ∀ h', FrO 1 h h' → Buf 1 K π s im u (M ++ (onT (hs c 0) (cuT (0, cu c 0)) ++ (onT (hs c 2) (cuT (2, cu c 2)) ++ [59]))) h' → K3 ((c : Int) + 1) h') : wL_tell_120 G (c : Int) K3 h := by
  have b := np_c dh hc
  have o := off_c dh hc (k := 0) (by decide) (x := 20 + 3 * (c : Int) + 0) rfl
  unfold wL_tell_120
  refine ⟨b, b, by omega, fun z => ?_, fun z => ?_⟩
  · refine t168_s dk dh hc q (by omega) (fun h1 f1 q1 => kk h1 f1 ?_)
    rw [o.1 z]
    exact q1
  · have on := o.2 z
    refine cur_s (k := 0) dk dh hc (by decide) on rfl (by decide) say_gr q (by omega) (fun h1 f1 q1 => ?_)
    have cl := cuT_len (0, cu c 0) (show (0 : Int) ≤ 0 ∧ (0 : Int) ≤ 2 by decide)
    refine t168_s (M := M ++ cuT (0, cu c 0)) dk (dh.fr f1.hi) hc q1 (by rw [List.length_append]; omega) (fun h2 f2 q2 => kk h2 (f1.tr f2) ?_)
    rw [on]
    rw [List.append_assoc] at q2
    exact q2
theorem t81_s (dk : DatOK N pr hs cu) (dh : DatH G h N pr hs cu) (hc : c < N) (q : Buf 1 K π s im u M h) (hl : M.length + 60 ≤ 700) (kk : ∀ h', FrO 1 h h' → Buf 1 K π s im u (M ++ (cuT (1, cu c 1) ++ (onT (hs c 0) (cuT (0, cu c 0)) ++ (onT (hs c 2) (cuT (2, cu c 2)) ++ [59])))) h' → K3 ((c : Int) + 1) h') : wL_tell_81 G (c : Int) K3 h := by
  have on := (dk.2 c hc).2.1
  unfold wL_tell_81
  refine cur_s (k := 1) dk dh hc (by decide) on rfl (by decide) say_sh q (by omega) (fun h1 f1 q1 => ?_)
  have cl := cuT_len (1, cu c 1) (show (0 : Int) ≤ 1 ∧ (1 : Int) ≤ 2 by decide)
  refine t120_s (M := M ++ cuT (1, cu c 1)) dk (dh.fr f1.hi) hc q1 (by rw [List.length_append]; omega) (fun h2 f2 q2 => kk h2 (f1.tr f2) ?_)
  rw [List.append_assoc] at q2
  exact q2
theorem flatT (c : Nat) : (clsT hs cu c).flatMap cuT ++ [59] = (if cu c 1 = (10, 0, 10) then [] else cuT (1, cu c 1)) ++ (onT (hs c 0) (cuT (0, cu c 0)) ++ (onT (hs c 2) (cuT (2, cu c 2)) ++ [59])) := by
  unfold clsT onT
  by_cases a : cu c 1 = (10, 0, 10) <;> by_cases b : hs c 0 = true <;> by_cases d : hs c 2 = true
  all_goals
    simp only [a, b, d, if_true, if_false, List.flatMap_cons, List.flatMap_nil, List.nil_append, List.append_nil, List.cons_append, List.append_assoc]
    try simp only [Bool.false_eq_true, if_false, List.flatMap_cons, List.flatMap_nil, List.nil_append, List.append_nil, List.cons_append, List.append_assoc]
theorem t44_s (dk : DatOK N pr hs cu) (dh : DatH G h N pr hs cu) (hc : c < N) (q : Buf 1 K π s im u M h) (hl : M.length + 60 ≤ 700) (kk : ∀ h', FrO 1 h h' → Buf 1 K π s im u (M ++ ((clsT hs cu c).flatMap cuT ++ [59])) h' → K3 ((c : Int) + 1) h') : wL_tell_44 G (c : Int) K3 h := by
  have b := np_c dh hc
  have on := (dk.2 c hc).2.1
  have w := (dk.2 c hc).2.2 1 (by decide) on
  unfold wq wellC at w
  obtain ⟨e1, e2, e3⟩ := ex_c dk dh hc (k := 1) (by decide) on (x := 20 + 3 * (c : Int) + 1) rfl
  obtain ⟨-, v0, v1, v2⟩ := (dh.2.2 c 1 hc (by decide)).1 on
  have go : cu c 1 ≠ (10, 0, 10) → wL_tell_81 G (c : Int) K3 h := fun ne => t81_s dk dh hc q hl (fun h1 f1 q1 => kk h1 f1 (by rw [flatT, if_neg ne]; exact q1))
  unfold wL_tell_44
  rw [e2, v0, v1, v2]
  refine ⟨b, b, e1, e3, by omega, fun z => go (fun e => z (by rw [e])), fun z => ⟨b, b, e1, e3, by omega, fun z2 => go (fun e => z2 (by rw [e])), fun z2 => ⟨b, b, e1, e3, by omega, fun z3 => ?_, fun z3 => go (fun e => z3 (by rw [e]))⟩⟩⟩
  refine t120_s dk dh hc q (by omega) (fun h1 f1 q1 => kk h1 f1 ?_)
  have e : cu c 1 = (10, 0, 10) := by
    have : cu c 1 = ((cu c 1).1, (cu c 1).2.1, (cu c 1).2.2) := rfl
    rw [this, z, z2, z3]
  rw [flatT, if_pos e]
  exact q1
theorem t3_s {K1 : HP → Prop} (dk : DatOK N pr hs cu) : ∀ (d c : Nat) {h : HP}, c + d = N → DatH G h N pr hs cu → Buf 1 K π s im u (txF pr (clsT hs cu) 0 c) h → (∀ h', FrO 1 h h' → Buf 1 K π s im u (txF pr (clsT hs cu) 0 N) h' → K1 h') → wL_tell_3 G K1 (d + 1) (c : Int) h := by
  have n6 := dk.1
  have ok := okTl dk
  intro d
  induction d with
  | zero =>
    intro c h hcd dh q kk
    have e : c = N := by omega
    subst e
    have en : npI G = (c : Int) := by unfold npI; rw [dh.1]
    rw [wL_tell_3, en]
    exact ⟨by omega, by omega, fun _ => kk h (FrO.rf 1 h) q, fun z => absurd (Int.le_refl _) z⟩
  | succ d ih =>
    intro c h hcd dh q kk
    have hc : c < N := by omega
    have b := np_c dh hc
    have en : npI G = (N : Int) := by unfold npI; rw [dh.1]
    have ll := txF_le ok c 0 (by omega)
    have prc := (dk.2 c hc).1
    rw [wL_tell_3]
    refine ⟨by omega, by rw [en]; omega, fun z => absurd z (by omega), fun _ => ?_⟩
    refine say_s (Or.inl rfl) (by decide) q (by show _ + 5 ≤ 700; omega) (fun h1 f1 q1 => ?_)
    have q1 : Buf 1 K π s im u (txF pr (clsT hs cu) 0 c ++ wd 3) h1 := by
      rw [← say_cl]; exact q1
    have dh1 := dh.fr f1.hi
    have e4 := dh1.2.1 c hc
    have e4' : h1 (kd 4) 0 (c : Int) = rc (pr c) := e4
    have l3 := wd_len 3 (by decide)
    have l5 := wd_len 5 (by decide)
    have next : ∀ {M : List Int} {h2 : HP}, FrO 1 h h2 → Buf 1 K π s im u M h2 → M ++ ((clsT hs cu c).flatMap cuT ++ [59]) = txF pr (clsT hs cu) 0 (c + 1) → M.length ≤ 440 → wL_tell_44 G (c : Int) (fun y5 hy => wL_tell_3 G K1 (d + 1) y5 hy) h2 := by
      intro M h2 f2 q2 eM lM
      refine t44_s dk (dh.fr f2.hi) hc q2 (by omega) (fun h3 f3 q3 => ?_)
      rw [eM] at q3
      have := ih (c + 1) (by omega) (dh.fr (f2.tr f3).hi) q3 (fun h' f' q' => kk h' ((f2.tr f3).tr f') q')
      rw [show ((c + 1 : Nat) : Int) = (c : Int) + 1 by omega] at this
      exact this
    have sn := txF_snoc pr (clsT hs cu) c 0
    rw [Nat.zero_add] at sn
    rw [e4']
    unfold rc
    by_cases z : pr c = 12
    · rw [if_pos z]
      refine ⟨b, by decide, fun _ => ?_, fun w => absurd (by decide) w⟩
      refine next f1 q1 ?_ (by rw [List.length_append]; omega)
      rw [sn, z]
      unfold clT
      rw [if_pos rfl]
      simp only [List.append_assoc, List.nil_append]
    · rw [if_neg z]
      have pb : 0 ≤ pr c ∧ pr c ≤ 11 := by
        rcases prc with w | ⟨w, -⟩
        · exact absurd w z
        · omega
      refine ⟨b, by omega, fun w => absurd w (by omega), fun _ => ?_⟩
      refine say_s (Or.inl rfl) (by decide) q1 (by rw [List.length_append]; show _ + 4 ≤ 700; omega) (fun h2 f2 q2 => ⟨b, ?_⟩)
      have q2 : Buf 1 K π s im u (txF pr (clsT hs cu) 0 c ++ wd 3 ++ (32 :: (wd 5 ++ [32]))) h2 := by
        rw [← say_in]; exact q2
      have dh2 := dh1.fr f2.hi
      have e5' : h2 (kd 4) 0 (c : Int) = rc (pr c) := dh2.2.1 c hc
      rw [e5']
      unfold rc
      rw [if_neg z]
      have dl := dg_len (pr c)
      have l2 : (txF pr (clsT hs cu) 0 c ++ wd 3 ++ (32 :: (wd 5 ++ [32]))).length ≤ 430 := by
        simp only [List.length_append, List.length_cons, List.length_nil]
        omega
      refine number_s (Or.inl rfl) (by omega) q2 (by omega) (fun h3 f3 q3 => ?_)
      refine next ((f1.tr f2).tr f3) q3 ?_ (by rw [List.length_append]; omega)
      rw [sn]
      unfold clT
      rw [if_neg z]
      simp only [List.append_assoc, List.cons_append, List.nil_append]
end TEL
/-- what stands behind tell: the first object is linked as told -/
def Lnk (o K : Int) (δ : PL) (σ : ST) (Hs : Int → ST) (nt : PL) (im : IM) (t : TX) (h : HP) : Prop := WA δ K (σ, 0, Hs, 0, nt) im t ∧ CI (ob o h) δ (σ, 0, Hs, 0, nt) im t ∧ t.1 = 0
/-- a link of a whole text -/
theorem link_s {o K : Int} {π : PL} {s : SD} {im : IM} {u : Int × (Int → Int)} {N : Nat} {pr : Nat → Int} {cls : Nat → List CQ} {h : HP} {P : Int → HP → Prop} (hK : 0 ≤ K) (ok : TellOK pr cls N) (q : Done o K π s im u (txF pr cls 0 N) h) (hl : (txF pr cls 0 N).length ≤ 700)
    (kk : ∀ g' δ gg im' t', δ = foldC pr cls N → DOK δ → WA δ K (st0 δ gg, 0, s.2.2.1, 0, s.2.2.2.2) im' t' → CI g' δ (st0 δ gg, 0, s.2.2.1, 0, s.2.2.2.2) im' t' → t'.1 = 0 → P 0 g') : wX11_link 0 ((txF pr cls 0 N).length : Int) (ob o h) P XF := by
  obtain ⟨-, t, wa, ci, t1, t2, -⟩ := q
  have t7 := wa.2.2.2.2.1.2
  obtain ⟨tk, rd⟩ := read_l (T := t.2.1) ok (fun j hj => by
    have := t2 (j : Int) (by omega) (by omega)
    rw [this]
    unfold tx
    rw [show ((j : Int)).toNat = j by omega])
  refine link_c wa ci (by unfold inR; omega) (fun g' δ gg tk' _ _ rd' dk c1 => ?_) (fun g' y δ tk' _ _ ny rd' _ => ?_) (fun no => absurd ⟨by omega, t1⟩ no)
  · rw [rd] at rd'
    have eδ : foldC pr cls N = δ := congrArg (fun r : RD => r.2.2) rd'
    refine kk g' δ gg _ _ eδ.symm dk ?_ c1 rfl
    refine ⟨dk.1, ⟨⟨st0_inv dk hK, ?_⟩, ⟨Int.le_refl (0 : Int), ?_⟩, fun i i0 i1 => ?_, ⟨Int.le_refl (0 : Int), ?_⟩, fun j j0 j1 => ?_⟩, Or.inl rfl, fun w => ?_, ⟨Int.le_refl (0 : Int), ?_⟩, fun j j0 j1 => ?_⟩
    · show (0 : Int) ≤ 2000; omega
    · show (0 : Int) ≤ 40; omega
    · have : i < (0 : Int) := i1
      omega
    · show (0 : Int) ≤ 8; omega
    · have : j < (0 : Int) := j1
      omega
    · have : (0 : Int) = 1 := w
      omega
    · show (0 : Int) ≤ 700; omega
    · have : j < (0 : Int) := j1
      omega
  · rw [rd] at rd'
    exact absurd (congrArg Prod.fst rd').symm ny
theorem tell_s {G : GG} {K : Int} {π : PL} {s : SD} {im : IM} {u : Int × (Int → Int)} {N : Nat} {pr : Nat → Int} {hs : Nat → Nat → Bool} {cu : Nat → Nat → Int × Int × Int} {h : HP} {P : Int → HP → Prop} (hK : 0 ≤ K) (dk : DatOK N pr hs cu) (dh : DatH G h N pr hs cu) (q : Buf 1 K π s im u [] h)
    (kk : ∀ h' δ gg im' t', (∀ k, 100 ≤ k → k ≠ 203 → h' k = h k) → Wk h' 0 [] → PlanD δ N pr hs cu → DOK δ → Lnk 1 K δ (st0 δ gg) s.2.2.1 s.2.2.2.2 im' t' h' → P 1 h') : wL_tell G h P := by
  have n6 := dk.1
  have ok := okTl dk
  have ll := txF_le ok N 0 (by omega)
  unfold wL_tell
  refine ⟨N + 1, t3_s dk N 0 (by omega) dh q (fun h1 f1 q1 => ⟨1, ?_⟩)⟩
  rw [wL_tell_241]
  refine ⟨by decide, fun _ => ?_, fun z => absurd (by decide) z⟩
  refine end_s (Or.inl rfl) q1 (by omega) (fun h2 f2 d2 => ?_)
  refine link_s hK ok d2 (by omega) (fun g' δ gg im' t' eδ dok wa ci t1 h3 e3 => ?_)
  refine ⟨by decide, fun t92 ht => ?_⟩
  have e92 : t92 = 1 := ht.2 rfl
  subst e92
  refine ⟨Or.inr rfl, kk h3 δ gg im' t' (fun k hk hk2 => ?_) ?_ ?_ dok ⟨wa, ?_, t1⟩⟩
  · rw [e3, pt_1o hk, f2 k (Or.inr hk) hk2, f1 k (Or.inr hk) hk2]
  · obtain ⟨⟨w1, w2⟩, -⟩ := d2
    have e203 : h3 (kd 3) = h2 (kd 3) := by rw [e3]; exact pt_1o (by decide)
    unfold Wk
    rw [e203]
    exact ⟨w1, w2⟩
  · rw [eδ]; exact planT dk
  · rw [e3]; exact CI_pt ci
