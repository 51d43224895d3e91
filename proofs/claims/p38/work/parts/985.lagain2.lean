/-! isToldAgain, formula by formula -/
def H204 (h h' : HP) : Prop := ∀ k, 204 ≤ k → h' k = h k
theorem H204.rf (h : HP) : H204 h h := fun _ _ => rfl
theorem H204.tr {h h' h'' : HP} (a : H204 h h') (b : H204 h' h'') : H204 h h'' := fun k q => by rw [b k q, a k q]
theorem FrB.e1 {h h' : HP} (f : FrB 1 h h') : ∀ k, 100 ≤ k → h' k = h k := fun k hk => f k (Or.inr (by show 100 * 0 + 100 ≤ k; omega))
theorem FrB.e2 {h h' : HP} (f : FrB 2 h h') : ∀ k, (k < 100 ∨ 200 ≤ k) → h' k = h k := fun k hk => f k (by show k < 100 * 1 ∨ 100 * 1 + 100 ≤ k; omega)
theorem FrO.e2 {h h' : HP} (f : FrO 2 h h') : ∀ k, (k < 100 ∨ 204 ≤ k) → h' k = h k := fun k hk => f k (by show k < 100 * 1 ∨ 100 * 1 + 100 ≤ k; omega) (by omega)
theorem St.k1 {K : Int} {π : PL} {s : SD} {im : IM} {t : TX} {h h' : HP} (a : St 1 K π s im t h) (e : ∀ k, k < 100 → h' k = h k) : St 1 K π s im t h' := a.cg (fun k hk => by show h' (k + 100 * 0) = h (k + 100 * 0); exact e _ (by omega))
theorem St.k2 {K : Int} {π : PL} {s : SD} {im : IM} {t : TX} {h h' : HP} (a : St 2 K π s im t h) (e : ∀ k, 100 ≤ k → h' k = h k) : St 2 K π s im t h' := a.cg (fun k hk => by show h' (k + 100 * 1) = h (k + 100 * 1); exact e _ (by omega))
theorem Buf.k2 {K : Int} {π : PL} {s : SD} {im : IM} {u : Int × (Int → Int)} {M : List Int} {h h' : HP} (a : Buf 2 K π s im u M h) (e : ∀ k, 100 ≤ k → h' k = h k) : Buf 2 K π s im u M h' := by
  obtain ⟨a1, a2, t, wa, ci, a3⟩ := a
  refine ⟨a1, ?_, t, wa, (St.k2 ⟨wa, ci⟩ e).2, a3⟩
  have e3 : h' (kd 3) = h (kd 3) := e _ (by decide)
  unfold Wk
  rw [e3]
  exact a2
theorem Byt.at {L : List Int} (b : Byt L) (j : Nat) : 0 ≤ L.getD j 0 ∧ L.getD j 0 ≤ 255 := by
  rw [List.getD_eq_getElem?_getD]
  rcases Nat.lt_or_ge j L.length with c | c
  · rw [List.getElem?_eq_getElem c]
    exact b _ (List.getElem_mem c)
  · rw [List.getElem?_eq_none c]
    exact ⟨by decide, by decide⟩
theorem take_one {L : List Int} {k : Nat} (hk : k < L.length) : L.take (k + 1) = L.take k ++ [L.getD k 0] := by
  rw [List.take_succ, List.getD_eq_getElem?_getD, List.getElem?_eq_getElem hk]
  rfl
section AG2
variable {G : GG} {K K2 : Int} {δ π2 : PL} {s s2 : SD} {im im2 : IM} {t t2 : TX} {u2 : Int × (Int → Int)} {N : Nat} {pr : Nat → Int} {hs : Nat → Nat → Bool} {cu : Nat → Nat → Int × Int × Int}
theorem a22_s {c : Nat} {L M : List Int} {K48 : HP → Prop} (hc : (c : Int) < δ 0 0) (q : TL (toldT δ s.1 (c : Int)) L) (bl : Byt L) (hl : M.length + L.length < 700) : ∀ (d k : Nat) {h : HP}, k + d = L.length → St 1 K δ s im t h → Buf 2 K2 π2 s2 im2 u2 (M ++ L.take k) h → (∀ h', H204 h h' → St 1 K δ s im t h' → Buf 2 K2 π2 s2 im2 u2 (M ++ L) h' → K48 h') → wL_isToldAgain_22 G (c : Int) (L.length : Int) K48 (d + 1) (k : Int) h := by
  intro d
  induction d with
  | zero =>
    intro k h hk a b kk
    have e : k = L.length := by omega
    subst e
    rw [List.take_length] at b
    rw [wL_isToldAgain_22]
    exact ⟨by omega, by omega, fun _ => kk h (H204.rf h) a b, fun z => absurd (Int.le_refl _) z⟩
  | succ d ih =>
    intro k h hk a b kk
    have lt : k < L.length := by omega
    have ltk : (L.take k).length = k := by rw [List.length_take]; omega
    rw [wL_isToldAgain_22]
    refine ⟨by omega, by omega, fun z => absurd z (by omega), fun _ => ?_⟩
    refine told_j a hc q k lt rfl (fun h1 f1 a1 => ?_)
    refine add_s (Or.inr rfl) (b.k2 f1.e1) (by rw [List.length_append]; omega) (bl.at k) (fun h2 f2 b2 => ?_)
    rw [List.append_assoc, ← take_one lt] at b2
    have a2 : St 1 K δ s im t h2 := a1.k1 (fun k hk => f2.e2 k (Or.inl hk))
    have := ih (k + 1) (h := h2) (by omega) a2 b2 (fun h' f' => kk h' (fun k hk => by rw [f' k hk, f2.e2 k (Or.inr hk), f1.e1 k (by omega)]))
    rw [show ((k + 1 : Nat) : Int) = (k : Int) + 1 by omega] at this
    exact this
theorem a3_s {K83 K75 : HP → Prop} (dk : DatOK N pr hs cu) (en : G.2.2.1 14 = N) (n : δ 0 0 = (N : Int)) (p : ∀ c : Nat, c < N → δ 1 (c : Int) = pr c) (cs : CuS s.1 N hs cu) : ∀ (d c : Nat) {h : HP}, c + d = N → St 1 K δ s im t h → Buf 2 K2 π2 s2 im2 u2 (txF pr (clsA hs cu) 0 c) h → (∀ h', H204 h h' → St 1 K δ s im t h' → Buf 2 K2 π2 s2 im2 u2 (txF pr (clsA hs cu) 0 N) h' → K83 h') → wL_isToldAgain_3 G K83 K75 (d + 1) (c : Int) h := by
  have n6 := dk.1
  have ok := okAl dk
  have ei : npI G = (N : Int) := by unfold npI; rw [en]
  intro d
  induction d with
  | zero =>
    intro c h hcd a b kk
    have e : c = N := by omega
    subst e
    rw [wL_isToldAgain_3, ei]
    exact ⟨by omega, by omega, fun _ => kk h (H204.rf h) a b, fun z => absurd (Int.le_refl _) z⟩
  | succ d ih =>
    intro c h hcd a b kk
    have hc : c < N := by omega
    have hc' : (c : Int) < δ 0 0 := by rw [n]; omega
    have q := toldT_l (π := δ) dk cs hc (p c hc)
    obtain ⟨pc, -⟩ := dk.2 c hc
    have okc := ok.2 c hc
    have bl : Byt (clT (pr c) (clsA hs cu c)) := byt_clT (by rcases pc with z | ⟨z, -⟩ <;> omega) okc.2.2.1
    have ll := txF_le ok c 0 (by omega)
    have lc := clT_len (i := pr c) (cl := clsA hs cu c) (fun q hq => (okc.2.2.1 q hq).1) okc.2.1
    have l1 := clT_pos (pr c) (clsA hs cu c)
    obtain ⟨x59, x99⟩ := clT_ends (i := pr c) (cl := clsA hs cu c)
    have sn := txF_snoc pr (clsA hs cu) c 0
    rw [Nat.zero_add] at sn
    rw [wL_isToldAgain_3, ei]
    refine ⟨by omega, by omega, fun z => absurd z (by omega), fun _ => ?_⟩
    refine told_n a hc' q (fun h1 f1 a1 => ⟨(clT (pr c) (clsA hs cu c)).length + 1, ?_⟩)
    refine a22_s (M := txF pr (clsA hs cu) 0 c) hc' q bl (by omega) _ 0 (by omega) a1 (by rw [List.take_zero, List.append_nil]; exact b.k2 f1.e1) (fun h2 f2 a2 b2 => ?_)
    refine told_j a2 hc' q ((clT (pr c) (clsA hs cu c)).length - 1) (by omega) (by omega) (fun h3 f3 a3 => ?_)
    rw [x59]
    refine ⟨by decide, fun z => absurd rfl z, fun _ => ?_⟩
    refine told_j a3 hc' q 0 (by omega) rfl (fun h4 f4 a4 => ?_)
    rw [x99]
    refine ⟨by decide, fun _ => ?_, fun z => absurd rfl z⟩
    rw [← sn] at b2
    have := ih (c + 1) (h := h4) (by omega) a4 ((b2.k2 f3.e1).k2 f4.e1) (fun h' f' => kk h' (fun k hk => by rw [f' k hk, f4.e1 k (by omega), f3.e1 k (by omega), f2 k hk, f1.e1 k (by omega)]))
    rw [show ((c + 1 : Nat) : Int) = (c : Int) + 1 by omega] at this
    exact this
theorem a153_s {c : Nat} {L : List Int} {K192 K184 : HP → Prop} (hc : (c : Int) < δ 0 0) (hc2 : (c : Int) < π2 0 0) (q : TL (toldT δ s.1 (c : Int)) L) (q2 : TL (toldT π2 s2.1 (c : Int)) L) (bl : Byt L) (hl : L.length ≤ 700) : ∀ (d k : Nat) {h : HP}, k + d = L.length → St 1 K δ s im t h → St 2 K2 π2 s2 im2 t2 h → (∀ h', H204 h h' → St 1 K δ s im t h' → St 2 K2 π2 s2 im2 t2 h' → K192 h') → wL_isToldAgain_153 G (c : Int) K192 K184 (d + 1) (k : Int) h := by
  intro d
  induction d with
  | zero =>
    intro k h hk a b kk
    rw [wL_isToldAgain_153]
    refine told_n a hc q (fun h1 f1 a1 => ⟨by omega, by omega, fun _ => kk h1 (fun k hk => f1.e1 k (by omega)) a1 (b.k2 f1.e1), fun z => absurd (by omega) z⟩)
  | succ d ih =>
    intro k h hk a b kk
    have lt : k < L.length := by omega
    have bb := bl.at k
    rw [wL_isToldAgain_153]
    refine told_n a hc q (fun h1 f1 a1 => ⟨by omega, by omega, fun z => absurd z (by omega), fun _ => ?_⟩)
    refine told_j (b.k2 f1.e1) hc2 q2 k lt rfl (fun h2 f2 b2 => ?_)
    refine told_j (a1.k1 (fun k hk => f2.e2 k (Or.inl hk))) hc q k lt rfl (fun h3 f3 a3 => ⟨by omega, by omega, fun _ => ?_, fun z => absurd rfl z⟩)
    have := ih (k + 1) (h := h3) (by omega) a3 (b2.k2 f3.e1) (fun h' f' => kk h' (fun k hk => by rw [f' k hk, f3.e1 k (by omega), f2.e2 k (Or.inr (by omega)), f1.e1 k (by omega)]))
    rw [show ((k + 1 : Nat) : Int) = (k : Int) + 1 by omega] at this
    exact this
theorem a110_s {K198 K148 K184 : HP → Prop} (dk : DatOK N pr hs cu) (n : δ 0 0 = (N : Int)) (p : ∀ c : Nat, c < N → δ 1 (c : Int) = pr c) (cs : CuS s.1 N hs cu) (n2 : π2 0 0 = (N : Int)) (p2 : ∀ c : Nat, c < N → π2 1 (c : Int) = pr c) (cs2 : CuS s2.1 N hs cu) : ∀ (d c : Nat) {h : HP}, c + d = N → DatH G h N pr hs cu → St 1 K δ s im t h → St 2 K2 π2 s2 im2 t2 h → (∀ h', H204 h h' → St 1 K δ s im t h' → St 2 K2 π2 s2 im2 t2 h' → K198 h') → wL_isToldAgain_110 G K198 K148 K184 (d + 1) (c : Int) h := by
  have n6 := dk.1
  have ok := okAl dk
  intro d
  induction d with
  | zero =>
    intro c h hcd dh a b kk
    have e : c = N := by omega
    subst e
    have ei : npI G = (c : Int) := by unfold npI; rw [dh.1]
    rw [wL_isToldAgain_110, ei]
    exact ⟨by omega, by omega, fun _ => kk h (H204.rf h) a b, fun z => absurd (Int.le_refl _) z⟩
  | succ d ih =>
    intro c h hcd dh a b kk
    have hc : c < N := by omega
    have ei : npI G = (N : Int) := by unfold npI; rw [dh.1]
    have hc' : (c : Int) < δ 0 0 := by rw [n]; omega
    have hc2 : (c : Int) < π2 0 0 := by rw [n2]; omega
    have q := toldT_l (π := δ) dk cs hc (p c hc)
    have q2 := toldT_l (π := π2) dk cs2 hc (p2 c hc)
    obtain ⟨pc, -⟩ := dk.2 c hc
    have okc := ok.2 c hc
    have bl : Byt (clT (pr c) (clsA hs cu c)) := byt_clT (by rcases pc with z | ⟨z, -⟩ <;> omega) okc.2.2.1
    have lc := clT_len (i := pr c) (cl := clsA hs cu c) (fun q hq => (okc.2.2.1 q hq).1) okc.2.1
    rw [wL_isToldAgain_110, ei]
    refine ⟨by omega, by omega, fun z => absurd z (by omega), fun _ => ?_⟩
    have hv : ofV π2 s2.1 (c : Int) 0 = (0, rc (pr c)) := by
      unfold ofV
      rw [if_neg (by omega), if_pos rfl, p2 c hc]
    refine of_o b ⟨by omega, hc2⟩ (by unfold inR; omega) hv (fun h1 f1 b1 => ?_)
    have e4 : h1 (kd 4) 0 (c : Int) = rc (pr c) := by rw [f1.e2 (kd 4) (Or.inr (by decide))]; exact dh.2.1 c hc
    have rcb : -1 ≤ rc (pr c) ∧ rc (pr c) ≤ 12 := by unfold rc; split <;> rcases pc with z | ⟨z, -⟩ <;> omega
    rw [e4]
    refine ⟨by omega, by omega, by omega, fun z => absurd rfl z, fun _ => ?_⟩
    refine told_n b1 hc2 q2 (fun h2 f2 b2 => ?_)
    refine told_n ((a.k1 (fun k hk => f1.e2 k (Or.inl hk))).k1 (fun k hk => f2.e2 k (Or.inl hk))) hc' q (fun h3 f3 a3 => ?_)
    refine ⟨by omega, by omega, fun _ => ⟨(clT (pr c) (clsA hs cu c)).length + 1, ?_⟩, fun z => absurd rfl z⟩
    refine a153_s hc' hc2 q q2 bl (by omega) _ 0 (by omega) a3 (b2.k2 f3.e1) (fun h4 f4 a4 b4 => ?_)
    have f04 : H204 h h4 := fun k hk => by rw [f4 k hk, f3.e1 k (by omega), f2.e2 k (Or.inr (by omega)), f1.e2 k (Or.inr (by omega))]
    have := ih (c + 1) (h := h4) (by omega) (dh.fr f04) a4 b4 (fun h' f' => kk h' (f04.tr f'))
    rw [show ((c + 1 : Nat) : Int) = (c : Int) + 1 by omega] at this
    exact this
theorem again_s {P : Int → HP → Prop} {h : HP} (hK2 : 0 ≤ K2) (dk : DatOK N pr hs cu) (dh : DatH G h N pr hs cu) (n : δ 0 0 = (N : Int)) (p : ∀ c : Nat, c < N → δ 1 (c : Int) = pr c) (cs : CuS s.1 N hs cu) (a : St 1 K δ s im t h) (q : Buf 2 K2 π2 s2 im2 u2 [] h) (kk : ∀ h', H204 h h' → St 1 K δ s im t h' → P 1 h') : wL_isToldAgain G h P := by
  have n6 := dk.1
  have ok := okAl dk
  have ll := txF_le ok N 0 (by omega)
  have ei : npI G = (N : Int) := by unfold npI; rw [dh.1]
  unfold wL_isToldAgain
  refine ⟨N + 1, a3_s dk dh.1 n p cs N 0 (by omega) a q (fun h1 f1 a1 b1 => ?_)⟩
  refine end_s (Or.inr rfl) b1 (by omega) (fun h2 f2 d2 => ?_)
  have a2 : St 1 K δ s im t h2 := a1.k1 (fun k hk => f2.e2 k (Or.inl hk))
  refine link_s hK2 ok d2 (by omega) (fun g' δ' gg im' t' eδ dok wa ci t1 h3 e3 => ?_)
  have b3 : St 2 K2 δ' (st0 δ' gg, 0, s2.2.2.1, 0, s2.2.2.2.2) im' t' h3 := ⟨wa, by rw [e3]; exact CI_pt ci⟩
  have f3 : FrB 2 h2 h3 := by rw [e3]; exact FrB.pt
  have a3 : St 1 K δ s im t h3 := a2.k1 (fun k hk => f3.e2 k (Or.inl hk))
  have pd : PlanD δ' N pr hs cu := by rw [eδ]; exact planA dk
  refine ⟨by decide, fun z => absurd rfl z, fun _ => ?_⟩
  have hv : countV δ' (st0 δ' gg, 0, s2.2.2.1, 0, s2.2.2.2.2) t' 0 = (0, (N : Int)) := by
    unfold countV
    rw [if_pos rfl, pd.1]
  refine count_o b3 (by unfold inR; omega) hv (fun h4 f4 b4 => ?_)
  have f04 : H204 h h4 := fun k hk => by rw [f4.e2 k (Or.inr (by omega)), f3.e2 k (Or.inr (by omega)), f2.e2 k (Or.inr (by omega)), f1 k hk]
  rw [ei]
  refine ⟨by omega, by omega, fun _ => ⟨N + 1, ?_⟩, fun z => absurd rfl z⟩
  exact a110_s dk n p cs pd.1 pd.2.2.1 (CuS_st0 dk pd) N 0 (by omega) (dh.fr f04) (a3.k1 (fun k hk => f4.e2 k (Or.inl hk))) b4 (fun h5 f5 a5 _ => kk h5 (f04.tr f5) a5)
end AG2
