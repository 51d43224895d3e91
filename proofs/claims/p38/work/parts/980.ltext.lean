/-! a text as a list, and what is read of it -/
def Sfx (T : Int → Int) (n p : Int) (L : List Int) : Prop := 0 ≤ p ∧ p + (L.length : Int) = n ∧ ∀ j : Nat, j < L.length → T (p + (j : Int)) = L.getD j 0
theorem Sfx.hd {T : Int → Int} {n p a : Int} {L : List Int} (h : Sfx T n p (a :: L)) : T p = a ∧ p < n ∧ Sfx T n (p + 1) L := by
  obtain ⟨h0, h1, h2⟩ := h
  have h1' : p + ((L.length + 1 : Nat) : Int) = n := h1
  refine ⟨?_, by omega, by omega, by omega, fun j hj => ?_⟩
  · have := h2 0 (by show 0 < L.length + 1; omega)
    rw [show p + ((0 : Nat) : Int) = p by omega] at this
    exact this
  · have := h2 (j + 1) (by show j + 1 < L.length + 1; omega)
    rw [show p + ((j + 1 : Nat) : Int) = p + 1 + (j : Int) by omega] at this
    exact this
theorem Sfx.app {T : Int → Int} {n : Int} {B : List Int} : ∀ {A : List Int} {p : Int}, Sfx T n p (A ++ B) → (∀ j : Nat, j < A.length → T (p + (j : Int)) = A.getD j 0) ∧ Sfx T n (p + (A.length : Int)) B := by
  intro A
  induction A with
  | nil =>
    intro p h
    refine ⟨fun j hj => absurd hj (Nat.not_lt_zero j), ?_⟩
    show Sfx T n (p + ((0 : Nat) : Int)) B
    rw [show p + ((0 : Nat) : Int) = p by omega]
    exact h
  | cons a A ih =>
    intro p h
    have h' : Sfx T n p (a :: (A ++ B)) := h
    obtain ⟨e, -, h2⟩ := h'.hd
    obtain ⟨g1, g2⟩ := ih h2
    refine ⟨fun j hj => ?_, ?_⟩
    · cases j with
      | zero => rw [show p + ((0 : Nat) : Int) = p by omega]; exact e
      | succ j =>
        have := g1 j (by have : j + 1 < A.length + 1 := hj; omega)
        rw [show p + ((j + 1 : Nat) : Int) = p + 1 + (j : Int) by omega]
        exact this
    · show Sfx T n (p + ((A.length + 1 : Nat) : Int)) B
      rw [show p + ((A.length + 1 : Nat) : Int) = p + 1 + (A.length : Int) by omega]
      exact g2
theorem Sfx.le {T : Int → Int} {n p : Int} {L : List Int} (h : Sfx T n p L) : p ≤ n := by have := h.2.1; omega
/-- what may stand behind a word or a number -/
def noW (L : List Int) : Prop := match L with
  | [] => False
  | a :: _ => a = 32 ∨ a = 59
theorem noW.at {T : Int → Int} {n p : Int} {L : List Int} (hL : noW L) (h : Sfx T n p L) : p < n ∧ ¬ tLe (T p) ∧ ¬ tDg (T p) := by
  cases L with
  | nil => exact hL.elim
  | cons a L =>
    obtain ⟨e, lt, -⟩ := h.hd
    have hL' : a = 32 ∨ a = 59 := hL
    rw [e]
    unfold tLe tDg
    omega
theorem scan_blk {q : Int → Prop} {T : Int → Int} {n : Int} : ∀ (m : Nat) {p : Int}, (∀ j : Nat, j < m → q (T (p + (j : Int)))) → p + (m : Int) < n → ¬ q (T (p + (m : Int))) → scanF q T n p = p + (m : Int) := by
  intro m
  induction m with
  | zero =>
    intro p _ h1 h2
    rw [show p + ((0 : Nat) : Int) = p by omega] at h1 h2 ⊢
    exact scan_stop h1 h2
  | succ m ih =>
    intro p h h1 h2
    have h0 := h 0 (by omega)
    rw [show p + ((0 : Nat) : Int) = p by omega] at h0
    rw [scan_go (by omega) h0, ih (fun j hj => by
      have := h (j + 1) (by omega)
      rw [show p + ((j + 1 : Nat) : Int) = p + 1 + (j : Int) by omega] at this
      exact this) (by omega) (by rw [show p + 1 + (m : Int) = p + ((m + 1 : Nat) : Int) by omega]; exact h2)]
    omega
theorem tok_blank {T : Int → Int} {n p : Int} {L : List Int} (h : Sfx T n p (32 :: L)) : tokA T n p = tokA T n (p + 1) ∧ Sfx T n (p + 1) L := by
  obtain ⟨e, lt, h2⟩ := h.hd
  refine ⟨?_, h2⟩
  unfold tokA
  rw [scan_go lt (Or.inl e)]
theorem tok_nb {T : Int → Int} {n p : Int} (lt : p < n) (h : ¬ tBl (T p)) : tokA T n p = tokB T n p := by
  unfold tokA
  rw [scan_stop lt h]
def wd (s : Nat) : List Int := (strByt.getD s []).map Int32.toInt
theorem wd_len : ∀ s : Nat, s < 6 → ((wd s).length : Int) = strL s ∧ 2 ≤ (wd s).length ∧ (wd s).length ≤ 5 := by decide +kernel
theorem wd_at : ∀ s : Nat, s < 6 → ∀ j : Nat, j < (wd s).length → (wd s).getD j 0 = strC s j ∧ 97 ≤ (wd s).getD j 0 ∧ (wd s).getD j 0 ≤ 122 := by decide +kernel
theorem tok_word {T : Int → Int} {n p : Int} {s : Nat} {L : List Int} (hs : s < 6) (h : Sfx T n p (wd s ++ L)) (hL : noW L) : tokA T n p = (p, p + ((wd s).length : Int), kdS s, 0) ∧ Sfx T n (p + ((wd s).length : Int)) L := by
  obtain ⟨h1, h2⟩ := h.app
  have wl := wd_len s hs
  have wa := wd_at s hs
  obtain ⟨lt, nl, -⟩ := hL.at h2
  refine ⟨?_, h2⟩
  have e0 := h1 0 (by omega)
  rw [show p + ((0 : Nat) : Int) = p by omega] at e0
  have a0 := wa 0 (by omega)
  have sc : scanF tLe T n p = p + ((wd s).length : Int) := scan_blk (wd s).length (fun j hj => by rw [h1 j hj]; exact (wa j hj).2) lt nl
  rw [tok_nb (by omega) (by rw [e0]; unfold tBl; omega)]
  unfold tokB
  rw [if_neg (by omega), if_pos (by rw [e0]; exact a0.2), sc]
  have kw : kindW T p (p + ((wd s).length : Int)) = kdS s := (kindW_iff (s := s) (by omega)).mpr ⟨by omega, fun i i0 i1 => by
    have ei : ((i.toNat : Nat) : Int) = i := by omega
    have lt2 : i.toNat < (wd s).length := by omega
    have := h1 i.toNat lt2
    rw [ei] at this
    rw [this, (wa i.toNat lt2).1, ei]⟩
  rw [kw]
/-- the digits of a number of at most three -/
def dg (v : Int) : List Int := if 100 ≤ v then [48 + v / 100, 48 + v / 10 % 10, 48 + v % 10] else if 10 ≤ v then [48 + v / 10, 48 + v % 10] else [48 + v]
theorem dg_len (v : Int) : 1 ≤ (dg v).length ∧ (dg v).length ≤ 3 := by
  unfold dg
  split
  · exact ⟨by show 1 ≤ 3; decide, Nat.le_refl 3⟩
  · split
    · exact ⟨by show 1 ≤ 2; decide, by show 2 ≤ 3; decide⟩
    · exact ⟨Nat.le_refl 1, by show 1 ≤ 3; decide⟩
theorem dg_at {v : Int} (hv : 0 ≤ v ∧ v ≤ 999) : ∀ j : Nat, j < (dg v).length → tDg ((dg v).getD j 0) := by
  intro j hj
  unfold dg at hj ⊢
  unfold tDg
  split at hj
  · rename_i c
    rw [if_pos c]
    have : j < 3 := hj
    match j, this with
    | 0, _ => show 48 ≤ 48 + v / 100 ∧ 48 + v / 100 ≤ 57; omega
    | 1, _ => show 48 ≤ 48 + v / 10 % 10 ∧ 48 + v / 10 % 10 ≤ 57; omega
    | 2, _ => show 48 ≤ 48 + v % 10 ∧ 48 + v % 10 ≤ 57; omega
  · rename_i c
    rw [if_neg c]
    split at hj
    · rename_i c2
      rw [if_pos c2]
      have : j < 2 := hj
      match j, this with
      | 0, _ => show 48 ≤ 48 + v / 10 ∧ 48 + v / 10 ≤ 57; omega
      | 1, _ => show 48 ≤ 48 + v % 10 ∧ 48 + v % 10 ≤ 57; omega
    · rename_i c2
      rw [if_neg c2]
      have : j < 1 := hj
      match j, this with
      | 0, _ => show 48 ≤ 48 + v ∧ 48 + v ≤ 57; omega
theorem dg_num {T : Int → Int} {a v : Int} (hv : 0 ≤ v ∧ v ≤ 999) (h : ∀ j : Nat, j < (dg v).length → T (a + (j : Int)) = (dg v).getD j 0) : numV T a (dg v).length = v := by
  unfold dg at h ⊢
  by_cases c : 100 ≤ v
  · rw [if_pos c] at h ⊢
    have h0 := h 0 (show 0 < 3 by decide)
    have h1 := h 1 (show 1 < 3 by decide)
    have h2 := h 2 (show 2 < 3 by decide)
    show (if 3 ≤ 2 then (1000000 : Int) else (if 3 ≤ 1 then (1000000 : Int) else (if 3 ≤ 0 then (1000000 : Int) else 0 * 10 + T (a + ((0 : Nat) : Int)) - 48) * 10 + T (a + ((1 : Nat) : Int)) - 48) * 10 + T (a + ((2 : Nat) : Int)) - 48) = v
    rw [if_neg (by decide), if_neg (by decide), if_neg (by decide), h0, h1, h2]
    show ((0 * 10 + (48 + v / 100) - 48) * 10 + (48 + v / 10 % 10) - 48) * 10 + (48 + v % 10) - 48 = v
    omega
  · rw [if_neg c] at h ⊢
    by_cases c2 : 10 ≤ v
    · rw [if_pos c2] at h ⊢
      have h0 := h 0 (show 0 < 2 by decide)
      have h1 := h 1 (show 1 < 2 by decide)
      show (if 3 ≤ 1 then (1000000 : Int) else (if 3 ≤ 0 then (1000000 : Int) else 0 * 10 + T (a + ((0 : Nat) : Int)) - 48) * 10 + T (a + ((1 : Nat) : Int)) - 48) = v
      rw [if_neg (by decide), if_neg (by decide), h0, h1]
      show (0 * 10 + (48 + v / 10) - 48) * 10 + (48 + v % 10) - 48 = v
      omega
    · rw [if_neg c2] at h ⊢
      have h0 := h 0 (show 0 < 1 by decide)
      show (if 3 ≤ 0 then (1000000 : Int) else 0 * 10 + T (a + ((0 : Nat) : Int)) - 48) = v
      rw [if_neg (by decide), h0]
      show 0 * 10 + (48 + v) - 48 = v
      omega
theorem tok_num {T : Int → Int} {n p v : Int} {L : List Int} (hv : 0 ≤ v ∧ v ≤ 999) (h : Sfx T n p (dg v ++ L)) (hL : noW L) : tokA T n p = (p, p + ((dg v).length : Int), 2, v) ∧ Sfx T n (p + ((dg v).length : Int)) L := by
  obtain ⟨h1, h2⟩ := h.app
  have dl := dg_len v
  have da := dg_at hv
  obtain ⟨lt, -, nd⟩ := hL.at h2
  refine ⟨?_, h2⟩
  have e0 := h1 0 (by omega)
  rw [show p + ((0 : Nat) : Int) = p by omega] at e0
  have a0 := da 0 (by omega)
  have sc : scanF tDg T n p = p + ((dg v).length : Int) := scan_blk (dg v).length (fun j hj => by rw [h1 j hj]; exact da j hj) lt nd
  have a0' := a0
  unfold tDg at a0'
  rw [tok_nb (by omega) (by rw [e0]; unfold tBl; omega)]
  unfold tokB
  rw [if_neg (by omega), if_neg (by rw [e0]; unfold tLe; omega), if_pos (by rw [e0]; exact a0), sc, show (p + ((dg v).length : Int) - p).toNat = (dg v).length by omega, dg_num hv h1]
theorem tok_semi {T : Int → Int} {n p : Int} {L : List Int} (h : Sfx T n p (59 :: L)) : tokA T n p = (p, p + 1, 3, 0) ∧ Sfx T n (p + 1) L := by
  obtain ⟨e, lt, h2⟩ := h.hd
  refine ⟨?_, h2⟩
  rw [tok_nb lt (by rw [e]; unfold tBl; omega)]
  unfold tokB
  rw [if_neg (by omega), if_neg (by rw [e]; unfold tLe; omega), if_neg (by rw [e]; unfold tDg; omega), if_pos e]
theorem tok_end {T : Int → Int} {n p : Int} (h : Sfx T n p []) : tokA T n p = (p, p, 0, 0) := by
  have e : p = n := by have : p + ((0 : Nat) : Int) = n := h.2.1; omega
  subst e
  unfold tokA
  rw [scan_end]
  unfold tokB
  rw [if_pos (Int.le_refl p)]
/-! a curve, the curves, a clause -/
def c3 (a b c : Int) : List Int := 32 :: (dg a ++ 32 :: (dg b ++ 32 :: dg c))
abbrev CQ : Type := Int × Int × Int × Int
def cuT (q : CQ) : List Int := 32 :: (wd q.1.toNat ++ c3 q.2.1 q.2.2.1 q.2.2.2)
theorem noW_32 (L : List Int) : noW (32 :: L) := Or.inl rfl
theorem noW_59 (L : List Int) : noW (59 :: L) := Or.inr rfl
theorem nexT_at {T : Int → Int} {n p a b c : Int} : nexT T n (p, a, b, c) = tokA T n a := rfl
theorem curD_l {T : Int → Int} {n p a b c s : Int} {L : List Int} {δ : PL} (w : wellC a b c) (h : Sfx T n p (c3 a b c ++ L)) (hL : noW L) : ∃ p', curD T n (tokA T n p) δ s = (0, tokA T n p', putD δ s a b c) ∧ Sfx T n p' L := by
  unfold wellC at w
  have h' : Sfx T n p (32 :: (dg a ++ (32 :: (dg b ++ (32 :: (dg c ++ L)))))) := by
    have e : c3 a b c ++ L = 32 :: (dg a ++ (32 :: (dg b ++ (32 :: (dg c ++ L))))) := by
      unfold c3
      simp only [List.cons_append, List.append_assoc]
    rw [← e]; exact h
  obtain ⟨t1, s1⟩ := tok_blank h'
  obtain ⟨t2, s2⟩ := tok_num (by omega) s1 (noW_32 _)
  obtain ⟨t3, s3⟩ := tok_blank s2
  obtain ⟨t4, s4⟩ := tok_num (by omega) s3 (noW_32 _)
  obtain ⟨t5, s5⟩ := tok_blank s4
  obtain ⟨t6, s6⟩ := tok_num (by omega) s5 hL
  refine ⟨_, ?_, s6⟩
  have n1 : numF (tokA T n p) 0 100 = 0 := numF_0.mpr (by rw [t1, t2]; exact ⟨rfl, by show 0 ≤ a ∧ a ≤ 100; omega⟩)
  unfold curD
  rw [n1, if_neg (by omega), t1, t2, nexT_at]
  have n2 : numF (tokA T n (p + 1 + ((dg a).length : Int))) 0 30 = 0 := numF_0.mpr (by rw [t3, t4]; exact ⟨rfl, by show 0 ≤ b ∧ b ≤ 30; omega⟩)
  unfold curD2
  rw [n2, if_neg (by omega), t3, t4, nexT_at]
  have n3 : numF (tokA T n (p + 1 + ((dg a).length : Int) + 1 + ((dg b).length : Int))) 1 100 = 0 := numF_0.mpr (by rw [t5, t6]; exact ⟨rfl, by show 1 ≤ c ∧ c ≤ 100; omega⟩)
  unfold curD3
  rw [n3, if_neg (by omega), t5, t6, nexT_at]
def putL (b : Int) : List CQ → PL → PL
  | [], δ => δ
  | q :: cl, δ => putL b cl (putD δ (b + q.1) q.2.1 q.2.2.1 q.2.2.2)
def MOK : Int → List CQ → Prop
  | _, [] => True
  | d, q :: cl => bAnd (bShr d q.1) 1 ≠ 1 ∧ MOK (bOr d (bShl 1 q.1)) cl
theorem kdS_c {k : Int} (hk : 0 ≤ k ∧ k ≤ 2) : kdS ((k.toNat : Nat) : Int) = k + 7 := by
  unfold kdS
  rw [show ((k.toNat : Nat) : Int) = k by omega, if_neg (by omega), if_neg (by omega), if_neg (by omega)]
theorem flat_noW (cl : List CQ) (L : List Int) : noW (cl.flatMap cuT ++ 59 :: L) := by
  cases cl with
  | nil => exact noW_59 L
  | cons q cl => exact Or.inl rfl
theorem curves_l {T : Int → Int} {n b : Int} {L : List Int} : ∀ (cl : List CQ) (f : Nat) (d p : Int) (δ : PL), cl.length < f → (∀ q ∈ cl, (0 ≤ q.1 ∧ q.1 ≤ 2) ∧ wellC q.2.1 q.2.2.1 q.2.2.2) → MOK d cl → Sfx T n p (cl.flatMap cuT ++ 59 :: L) → ∃ p', curvesD T n b f d (tokA T n p) δ = (0, (p', p' + 1, 3, 0), putL b cl δ) ∧ Sfx T n (p' + 1) L := by
  intro cl
  induction cl with
  | nil =>
    intro f d p δ hf _ _ h
    have h' : Sfx T n p (59 :: L) := h
    obtain ⟨t1, s1⟩ := tok_semi h'
    obtain ⟨f', rfl⟩ : ∃ f', f = f' + 1 := ⟨f - 1, by have : 0 < f := hf; omega⟩
    refine ⟨p, ?_, s1⟩
    unfold curvesD
    rw [t1, if_pos rfl]
    rfl
  | cons q cl ih =>
    intro f d p δ hf hw hm h
    obtain ⟨f', rfl⟩ : ∃ f', f = f' + 1 := ⟨f - 1, by have : cl.length + 1 < f := hf; omega⟩
    have hf' : cl.length + 1 < f' + 1 := hf
    obtain ⟨hk, w⟩ := hw q List.mem_cons_self
    have e : (q :: cl).flatMap cuT ++ 59 :: L = 32 :: (wd q.1.toNat ++ (c3 q.2.1 q.2.2.1 q.2.2.2 ++ (cl.flatMap cuT ++ 59 :: L))) := by
      rw [List.flatMap_cons]
      unfold cuT
      simp only [List.cons_append, List.append_assoc]
    rw [e] at h
    obtain ⟨t1, s1⟩ := tok_blank h
    obtain ⟨t2, s2⟩ := tok_word (by omega) s1 (noW_32 _)
    rw [kdS_c hk] at t2
    obtain ⟨p3, c3e, s3⟩ := curD_l (δ := δ) (s := b + q.1) w s2 (flat_noW cl L)
    obtain ⟨hm1, hm2⟩ := hm
    obtain ⟨p', r1, r2⟩ := ih f' (bOr d (bShl 1 q.1)) p3 (putD δ (b + q.1) q.2.1 q.2.2.1 q.2.2.2) (by omega) (fun x hx => hw x (List.mem_cons_of_mem _ hx)) hm2 s3
    refine ⟨p', ?_, r2⟩
    unfold curvesD
    rw [t1, t2]
    have k7 : ((p + 1, p + 1 + ((wd q.1.toNat).length : Int), q.1 + 7, (0 : Int)) : TK).2.2.1 - 7 = q.1 := by show q.1 + 7 - 7 = q.1; omega
    rw [if_neg (by show ¬ q.1 + 7 = 3; omega), if_neg (by show ¬ q.1 + 7 < 7; omega), k7, if_neg hm1, nexT_at, c3e, if_neg (by show ¬ (0 : Int) ≠ 0; omega)]
    exact r1
def clT (i : Int) (cl : List CQ) : List Int := wd 3 ++ ((if i = 12 then [] else 32 :: (wd 5 ++ 32 :: dg i)) ++ (cl.flatMap cuT ++ [59]))
theorem clT_pos (i : Int) (cl : List CQ) : 1 ≤ (clT i cl).length := by
  unfold clT
  rw [List.length_append]
  have : 2 ≤ (wd 3).length := (wd_len 3 (by decide)).2.1
  omega
theorem clause_l {T : Int → Int} {n p i : Int} {cl : List CQ} {L : List Int} {δ : PL} (hδ : δ 0 0 < 12) (hi : i = 12 ∨ ((0 ≤ i ∧ i ≤ 11) ∧ holdD δ i)) (hc : cl.length < 4) (hw : ∀ q ∈ cl, (0 ≤ q.1 ∧ q.1 ≤ 2) ∧ wellC q.2.1 q.2.2.1 q.2.2.2) (hm : MOK 0 cl) (h : Sfx T n p (clT i cl ++ L)) : (tokA T n p).2.2.1 = 4 ∧ ∃ p', clauseD T n (tokA T n p) δ = (0, (p', p' + 1, 3, 0), putL (3 * δ 0 0) cl (addC δ i)) ∧ Sfx T n (p' + 1) L := by
  have e : clT i cl ++ L = wd 3 ++ ((if i = 12 then [] else 32 :: (wd 5 ++ 32 :: dg i)) ++ (cl.flatMap cuT ++ 59 :: L)) := by
    unfold clT
    simp only [List.append_assoc, List.cons_append, List.nil_append]
  rw [e] at h
  have nw : noW ((if i = 12 then [] else 32 :: (wd 5 ++ 32 :: dg i)) ++ (cl.flatMap cuT ++ 59 :: L)) := by
    by_cases c : i = 12
    · rw [if_pos c]; exact flat_noW cl L
    · rw [if_neg c]; exact Or.inl rfl
  obtain ⟨t1, s1⟩ := tok_word (s := 3) (by decide) h nw
  have k4 : kdS ((3 : Nat) : Int) = 4 := by decide
  rw [k4] at t1
  refine ⟨by rw [t1], ?_⟩
  unfold clauseD
  rw [t1, if_pos rfl]
  unfold classD
  rw [if_neg (by omega), nexT_at]
  by_cases c : i = 12
  · rw [if_pos c, List.nil_append] at s1
    obtain ⟨p', r1, r2⟩ := curves_l (b := 3 * δ 0 0) cl 4 0 _ (addC δ 12) hc hw hm s1
    refine ⟨p', ?_, r2⟩
    unfold class1
    have k6 : (tokA T n (p + ((wd 3).length : Int))).2.2.1 ≠ 6 := by
      cases cl with
      | nil =>
        have s1' : Sfx T n (p + ((wd 3).length : Int)) (59 :: L) := s1
        rw [(tok_semi s1').1]
        show (3 : Int) ≠ 6
        decide
      | cons q cl =>
        have hk := (hw q List.mem_cons_self).1
        have e2 : (q :: cl).flatMap cuT ++ 59 :: L = 32 :: (wd q.1.toNat ++ (c3 q.2.1 q.2.2.1 q.2.2.2 ++ (cl.flatMap cuT ++ 59 :: L))) := by
          rw [List.flatMap_cons]
          unfold cuT
          simp only [List.cons_append, List.append_assoc]
        rw [e2] at s1
        obtain ⟨u1, v1⟩ := tok_blank s1
        obtain ⟨u2, v2⟩ := tok_word (by omega) v1 (noW_32 _)
        rw [kdS_c hk] at u2
        rw [u1, u2]
        show q.1 + 7 ≠ 6
        omega
    rw [if_neg k6, c]
    exact r1
  · obtain ⟨hi1, hi2⟩ := hi.resolve_left c
    rw [if_neg c] at s1
    have s1' : Sfx T n (p + ((wd 3).length : Int)) (32 :: (wd 5 ++ (32 :: (dg i ++ (cl.flatMap cuT ++ 59 :: L))))) := by
      have e3 : (32 :: (wd 5 ++ 32 :: dg i)) ++ (cl.flatMap cuT ++ 59 :: L) = 32 :: (wd 5 ++ (32 :: (dg i ++ (cl.flatMap cuT ++ 59 :: L)))) := by
        simp only [List.cons_append, List.append_assoc]
      rw [← e3]; exact s1
    obtain ⟨u1, v1⟩ := tok_blank s1'
    obtain ⟨u2, v2⟩ := tok_word (s := 5) (by decide) v1 (noW_32 _)
    have k5 : kdS ((5 : Nat) : Int) = 6 := by decide
    rw [k5] at u2
    obtain ⟨u3, v3⟩ := tok_blank v2
    obtain ⟨u4, v4⟩ := tok_num (by omega) v3 (flat_noW cl L)
    obtain ⟨p', r1, r2⟩ := curves_l (b := 3 * δ 0 0) cl 4 0 _ (addC δ i) hc hw hm v4
    refine ⟨p', ?_, r2⟩
    unfold class1
    rw [u1, u2, if_pos rfl, nexT_at]
    unfold class2
    have n0 : numF (tokA T n (p + ((wd 3).length : Int) + 1 + ((wd 5).length : Int))) 0 11 = 0 := numF_0.mpr (by rw [u3, u4]; exact ⟨rfl, hi1⟩)
    rw [n0, if_neg (by omega), u3, u4, if_pos hi2, nexT_at]
    exact r1
/-! all clauses -/
def foldC (pr : Nat → Int) (cls : Nat → List CQ) : Nat → PL
  | 0 => drf0
  | c + 1 => putL (3 * (c : Int)) (cls c) (addC (foldC pr cls c) (pr c))
def txF (pr : Nat → Int) (cls : Nat → List CQ) (c : Nat) : Nat → List Int
  | 0 => []
  | k + 1 => clT (pr c) (cls c) ++ txF pr cls (c + 1) k
theorem txF_snoc (pr : Nat → Int) (cls : Nat → List CQ) : ∀ (k c : Nat), txF pr cls c (k + 1) = txF pr cls c k ++ clT (pr (c + k)) (cls (c + k)) := by
  intro k
  induction k with
  | zero => intro c; show clT (pr c) (cls c) ++ [] = [] ++ clT (pr (c + 0)) (cls (c + 0)); rw [List.append_nil, List.nil_append, Nat.add_zero]
  | succ k ih =>
    intro c
    show clT (pr c) (cls c) ++ txF pr cls (c + 1) (k + 1) = (clT (pr c) (cls c) ++ txF pr cls (c + 1) k) ++ _
    rw [ih (c + 1), List.append_assoc, show c + 1 + k = c + (k + 1) by omega]
theorem txF_len (pr : Nat → Int) (cls : Nat → List CQ) : ∀ (k c : Nat), k ≤ (txF pr cls c k).length := by
  intro k
  induction k with
  | zero => intro c; exact Nat.zero_le _
  | succ k ih =>
    intro c
    show k + 1 ≤ (clT (pr c) (cls c) ++ txF pr cls (c + 1) k).length
    rw [List.length_append]
    have := clT_pos (pr c) (cls c)
    have := ih (c + 1)
    omega
theorem putL_k {b : Int} : ∀ {cl : List CQ} {δ : PL} {k : Nat}, k < 6 → putL b cl δ k = δ k := by
  intro cl
  induction cl with
  | nil => intro δ k _; rfl
  | cons q cl ih => intro δ k hk; show putL b cl _ k = _; rw [ih hk, putD_k hk]
theorem putL_o {b s : Int} : ∀ {cl : List CQ} {δ : PL} {k : Nat}, (∀ q ∈ cl, b + q.1 ≠ s) → putL b cl δ k s = δ k s := by
  intro cl
  induction cl with
  | nil => intro δ k _; rfl
  | cons q cl ih =>
    intro δ k h
    show putL b cl _ k s = _
    rw [ih (fun x hx => h x (List.mem_cons_of_mem _ hx)), putD_o (fun e => h q List.mem_cons_self e.symm)]
/-- what may be told, one by one -/
def TellOK (pr : Nat → Int) (cls : Nat → List CQ) (N : Nat) : Prop := N ≤ 12 ∧ ∀ c : Nat, c < N → (pr c = 12 ∨ ((0 ≤ pr c ∧ pr c < (c : Int)) ∧ ∀ q ∈ cls (pr c).toNat, q.1 ≠ 0)) ∧ (cls c).length < 4 ∧ (∀ q ∈ cls c, (0 ≤ q.1 ∧ q.1 ≤ 2) ∧ wellC q.2.1 q.2.2.1 q.2.2.2) ∧ MOK 0 (cls c)
theorem fold_0 (pr : Nat → Int) (cls : Nat → List CQ) : ∀ c : Nat, foldC pr cls c 0 0 = (c : Int) ∧ foldC pr cls c 0 1 = 0 := by
  intro c
  induction c with
  | zero => exact ⟨rfl, rfl⟩
  | succ c ih =>
    have e := addC_0 (δ := foldC pr cls c) (i := pr c)
    show putL (3 * (c : Int)) (cls c) (addC (foldC pr cls c) (pr c)) 0 0 = ((c + 1 : Nat) : Int) ∧ putL (3 * (c : Int)) (cls c) (addC (foldC pr cls c) (pr c)) 0 1 = 0
    rw [putL_k (by decide), e.1, e.2]
    omega
theorem fold_1 (pr : Nat → Int) (cls : Nat → List CQ) : ∀ c j : Nat, j < c → foldC pr cls c 1 (j : Int) = pr j := by
  intro c
  induction c with
  | zero => intro j hj; omega
  | succ c ih =>
    intro j hj
    show putL (3 * (c : Int)) (cls c) (addC (foldC pr cls c) (pr c)) 1 (j : Int) = pr j
    rw [putL_k (by decide), addC_1, (fold_0 pr cls c).1]
    by_cases e : (j : Int) = (c : Int)
    · rw [if_pos e, show j = c by omega]
    · rw [if_neg e]; exact ih j (by omega)
theorem fold_hi {pr : Nat → Int} {cls : Nat → List CQ} {N : Nat} (ok : TellOK pr cls N) : ∀ c : Nat, c ≤ N → ∀ (k : Nat) (s : Int), 6 ≤ k → 3 * (c : Int) ≤ s → foldC pr cls c k s = 0 := by
  intro c
  induction c with
  | zero => intro _ k s _ _; rfl
  | succ c ih =>
    intro hc k s hk hs
    show putL (3 * (c : Int)) (cls c) (addC (foldC pr cls c) (pr c)) k s = 0
    rw [putL_o (fun q hq => by have := ((ok.2 c (by omega)).2.2.1 q hq).1; omega), addC_o hk (by rw [(fold_0 pr cls c).1]; omega)]
    exact ih (by omega) k s hk (by omega)
theorem fold_at {pr : Nat → Int} {cls : Nat → List CQ} {N : Nat} (ok : TellOK pr cls N) (j : Nat) : ∀ c : Nat, j < c → c ≤ N → ∀ (k : Nat) (x : Int), 6 ≤ k → 0 ≤ x → x ≤ 2 → foldC pr cls c k (3 * (j : Int) + x) = putL (3 * (j : Int)) (cls j) (addC (foldC pr cls j) (pr j)) k (3 * (j : Int) + x) := by
  intro c
  induction c with
  | zero => intro hj; omega
  | succ c ih =>
    intro hj hc k x hk x0 x1
    by_cases e : j = c
    · subst e; rfl
    · show putL (3 * (c : Int)) (cls c) (addC (foldC pr cls c) (pr c)) k (3 * (j : Int) + x) = _
      rw [putL_o (fun q hq => by have := ((ok.2 c (by omega)).2.2.1 q hq).1; omega), addC_o hk (by rw [(fold_0 pr cls c).1]; omega)]
      exact ih (by omega) (by omega) k x hk x0 x1
theorem fold_hold {pr : Nat → Int} {cls : Nat → List CQ} {N c : Nat} (ok : TellOK pr cls N) (hc : c < N) : pr c = 12 ∨ ((0 ≤ pr c ∧ pr c ≤ 11) ∧ holdD (foldC pr cls c) (pr c)) := by
  obtain ⟨h1, -⟩ := ok.2 c hc
  have n12 := ok.1
  rcases h1 with q | ⟨q1, q2⟩
  · exact Or.inl q
  · refine Or.inr ⟨by omega, ?_, ?_, fun f f0 f1 => ?_⟩
    · rw [(fold_0 pr cls c).1]; exact q1.2
    · have ej : (((pr c).toNat : Nat) : Int) = pr c := by omega
      have := fold_at ok (pr c).toNat c (by omega) (by omega) 8 0 (by decide) (by decide) (by decide)
      rw [ej, Int.add_zero] at this
      rw [this, putL_o (fun x hx => by have := q2 x hx; omega), addC_o (by decide) (by rw [(fold_0 pr cls _).1]; omega), fold_hi ok _ (by omega) 8 _ (by decide) (by omega)]
      omega
    · rw [(fold_0 pr cls c).2] at f1
      omega
theorem parse_l {T : Int → Int} {n : Int} {pr : Nat → Int} {cls : Nat → List CQ} {N : Nat} (ok : TellOK pr cls N) : ∀ (k c f : Nat) (p : Int), c + k = N → k < f → Sfx T n p (txF pr cls c k) → ∃ tk, parseD T n f (tokA T n p) (foldC pr cls c) = (0, tk, foldC pr cls N) := by
  intro k
  induction k with
  | zero =>
    intro c f p hc hf h
    obtain ⟨f', rfl⟩ : ∃ f', f = f' + 1 := ⟨f - 1, by omega⟩
    have hcN : c = N := by omega
    subst hcN
    refine ⟨(p, p, 0, 0), ?_⟩
    unfold parseD
    rw [tok_end h, if_pos rfl]
  | succ k ih =>
    intro c f p hc hf h
    obtain ⟨f', rfl⟩ : ∃ f', f = f' + 1 := ⟨f - 1, by omega⟩
    have h' : Sfx T n p (clT (pr c) (cls c) ++ txF pr cls (c + 1) k) := h
    obtain ⟨-, o2, o3, o4⟩ := ok.2 c (by omega)
    have n12 := ok.1
    obtain ⟨k4, p', r1, r2⟩ := clause_l (δ := foldC pr cls c) (by rw [(fold_0 pr cls c).1]; omega) (fold_hold ok (by omega)) o2 o3 o4 h'
    rw [(fold_0 pr cls c).1] at r1
    obtain ⟨tk, z⟩ := ih (c + 1) f' (p' + 1) (by omega) (by omega) r2
    refine ⟨tk, ?_⟩
    unfold parseD
    rw [if_neg (by rw [k4]; decide), r1, if_neg (by show ¬ (0 : Int) ≠ 0; omega), nexT_at]
    exact z
theorem read_l {T : Int → Int} {pr : Nat → Int} {cls : Nat → List CQ} {N : Nat} (ok : TellOK pr cls N) (h : ∀ j : Nat, j < (txF pr cls 0 N).length → T (j : Int) = (txF pr cls 0 N).getD j 0) : ∃ tk, readA T ((txF pr cls 0 N).length : Int) = (0, tk, foldC pr cls N) := by
  have hl := txF_len pr cls N 0
  obtain ⟨tk, z⟩ := parse_l (T := T) (n := ((txF pr cls 0 N).length : Int)) ok N 0 (((txF pr cls 0 N).length : Int) + 1).toNat 0 (by omega) (by omega) ⟨Int.le_refl 0, by omega, fun j hj => by rw [Int.zero_add]; exact h j hj⟩
  exact ⟨tk, z⟩
