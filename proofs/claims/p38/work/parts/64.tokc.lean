def TxC (h : HP) (T : Int → Int) (n : Int) : Prop := h 9 0 2 = n ∧ (0 ≤ n ∧ n ≤ 700) ∧ (∀ j, 0 ≤ j → j < n → h 45 0 j = T j) ∧ ∀ j, 0 ≤ j → j < n → 0 ≤ T j ∧ T j ≤ 255
def TkC (h : HP) (t : TK) : Prop := h 9 0 3 = t.1 ∧ h 9 0 4 = t.2.1 ∧ h 9 0 5 = t.2.2.1 ∧ (t.2.2.1 = 2 → h 9 0 6 = t.2.2.2)
def Fr9 (h h' : HP) : Prop := ∀ k, k ≠ 9 → h' k = h k
theorem Fr9.rf (h : HP) : Fr9 h h := fun _ _ => rfl
theorem Fr9.tr {h h' h'' : HP} (a : Fr9 h h') (b : Fr9 h' h'') : Fr9 h h'' := fun k hk => by rw [b k hk, a k hk]
theorem Fr9.up {h : HP} {j v : Int} : Fr9 h (up h 9 0 j v) := fun k hk => up_k hk
theorem TxC.fr {h h' : HP} {T : Int → Int} {n : Int} (q : TxC h T n) (f : Fr9 h h') (e : h' 9 0 2 = h 9 0 2) : TxC h' T n := by
  unfold TxC at *
  rw [f 45 (by decide), e]; exact q
theorem isLetter_c {h : HP} {T : Int → Int} {n a : Int} {P : Int → HP → Prop} (x : TxC h T n) (ha : 0 ≤ a ∧ a < n) (k : ∀ y, (y = 0 ∨ y = 1) → (y = 1 ↔ tLe (T a)) → P y h) : wX9_isLetter 0 a h P := by
  obtain ⟨x1, x2, x3, x4⟩ := x
  have r := x4 a ha.1 ha.2
  unfold wX9_isLetter
  rw [x3 a ha.1 ha.2]
  refine ⟨by omega, ⟨by omega, fun _ => by omega⟩, fun t5 h5 => ?_⟩
  have : (t5 = 0 ∨ t5 = 1) ∧ (t5 = 1 ↔ tLe (T a)) := by
    unfold tLe
    by_cases c : T a < 97
    · rw [h5.1 c]; omega
    · by_cases c2 : 122 < T a
      · rw [(h5.2 c).1 c2]; omega
      · rw [(h5.2 c).2 c2]; omega
  exact ⟨this.1, k t5 this.1 this.2⟩
theorem isDigit_c {h : HP} {T : Int → Int} {n a : Int} {P : Int → HP → Prop} (x : TxC h T n) (ha : 0 ≤ a ∧ a < n) (k : ∀ y, (y = 0 ∨ y = 1) → (y = 1 ↔ tDg (T a)) → P y h) : wX9_isDigit 0 a h P := by
  obtain ⟨x1, x2, x3, x4⟩ := x
  have r := x4 a ha.1 ha.2
  unfold wX9_isDigit
  rw [x3 a ha.1 ha.2]
  refine ⟨by omega, ⟨by omega, fun _ => by omega⟩, fun t5 h5 => ?_⟩
  have : (t5 = 0 ∨ t5 = 1) ∧ (t5 = 1 ↔ tDg (T a)) := by
    unfold tDg
    by_cases c : T a < 48
    · rw [h5.1 c]; omega
    · by_cases c2 : 57 < T a
      · rw [(h5.2 c).1 c2]; omega
      · rw [(h5.2 c).2 c2]; omega
  exact ⟨this.1, k t5 this.1 this.2⟩
theorem isWord_c {h : HP} {T : Int → Int} {n a b s : Int} {P : Int → HP → Prop} (x : TxC h T n) (ea : h 9 0 3 = a) (eb : h 9 0 4 = b) (hab : 0 ≤ a ∧ a ≤ b ∧ b ≤ n) (hs : 0 ≤ s ∧ s < 6) (k : ∀ y, (y = 0 ∨ y = 1) → (y = 1 ↔ wordAt T a b s) → P y h) : wX9_isWord 0 s h P := by
  obtain ⟨x1, x2, x3, x4⟩ := x
  have sr := str_rng hs
  unfold wX9_isWord
  rw [ea, eb]
  refine ⟨by omega, by omega, fun c => ?_, fun c => k 0 (Or.inl rfl) ⟨fun u => by omega, fun u => absurd u.1.symm c⟩⟩
  have loop : ∀ (d : Nat) (i : Int), (strL s - i).toNat = d → 0 ≤ i → i ≤ strL s → (∀ j, 0 ≤ j → j < i → T (a + j) = strC s j) → wX9_isWord_20 0 s (fun h13 => P 1 h13) (fun h14 => P 0 h14) (d + 1) i h := by
    intro d
    induction d with
    | zero =>
      intro i hd i0 i1 g
      have e : i = strL s := by omega
      rw [wX9_isWord_20]
      exact ⟨by omega, by omega, fun _ => k 1 (Or.inr rfl) ⟨fun _ => ⟨c.symm, fun j j0 j1 => g j j0 (by omega)⟩, fun _ => rfl⟩, fun u => absurd (by omega) u⟩
    | succ d ih =>
      intro i hd i0 i1 g
      have r := x4 (a + i) (by omega) (by omega)
      have sc := sr.2 i i0 (by omega)
      rw [wX9_isWord_20, ea, x3 (a + i) (by omega) (by omega)]
      refine ⟨by omega, by omega, fun u => absurd u (by omega), fun _ => ⟨by omega, by omega, by omega, by omega, fun u => ih (i + 1) (by omega) (by omega) (by omega) (fun j j0 j1 => ?_), fun u => k 0 (Or.inl rfl) ⟨fun w => by omega, fun w => absurd (w.2 i i0 (by omega)) u⟩⟩⟩
      by_cases w : j = i
      · rw [w]; exact u
      · exact g j j0 (by omega)
  exact ⟨_, loop _ 0 rfl (by omega) (by omega) (fun j j0 j1 => by omega)⟩
theorem takeWord_c {h : HP} {T : Int → Int} {n a : Int} {P : HP → Prop} (x : TxC h T n) (ea : h 9 0 3 = a) (eb : h 9 0 4 = a) (ha : 0 ≤ a ∧ a < n) (hl : tLe (T a))
    (k : ∀ h', Fr9 h h' → h' 9 0 2 = h 9 0 2 → TkC h' (a, scanF tLe T n a, kindW T a (scanF tLe T n a), 0) → P h') : wX9_takeWord 0 h P := by
  have su := scan_up (n := n) ha.2 hl
  unfold wX9_takeWord
  have loop : ∀ (Ko : HP → Prop), (∀ h10, Fr9 h h10 → (∀ j, j ≠ 4 → h10 9 0 j = h 9 0 j) → h10 9 0 4 = scanF tLe T n a → Ko h10) → ∀ (d : Nat) (p : Int) (hh : HP), (n - p).toNat = d → a ≤ p → p ≤ n → Fr9 h hh → (∀ j, j ≠ 4 → hh 9 0 j = h 9 0 j) → hh 9 0 4 = p → scanF tLe T n p = scanF tLe T n a → wX9_takeWord_0 0 Ko (d + 1) hh := by
    intro Ko after d
    induction d with
    | zero =>
      intro p hh hd p0 p1 ff jj e4 hs
      have e : p = n := by omega
      rw [wX9_takeWord_0, e4, jj 2 (by decide), x.1]
      rw [e, scan_end] at hs
      exact ⟨by have := x.2.1; omega, by have := x.2.1; omega, fun _ => after hh ff jj (by rw [e4, e]; exact hs), fun u => absurd (by omega) u⟩
    | succ d ih =>
      intro p hh hd p0 p1 ff jj e4 hs
      rw [wX9_takeWord_0, e4, jj 2 (by decide), x.1]
      refine ⟨by have := x.2.1; omega, by have := x.2.1; omega, fun u => absurd u (by omega), fun _ => isLetter_c (x.fr ff (jj 2 (by decide))) (by omega) (fun y hy hq => ⟨by omega, fun u => after hh ff jj ?_, fun u h8 e8 => ?_⟩)⟩
      · rw [e4, ← hs]
        exact (scan_stop (by omega) (fun w => by have := hq.mpr w; omega)).symm
      · have ql : tLe (T p) := hq.mp (by omega)
        refine ih (p + 1) h8 (by omega) (by omega) (by omega) (ff.tr (by rw [e8]; exact Fr9.up)) (fun j j1 => by rw [e8, up_j j1]; exact jj j j1) (by rw [e8, up_eq, e4]) ?_
        rw [← hs]; exact (scan_go (by omega) ql).symm
  refine ⟨_, loop _ (fun h10 f10 j10 e10 => ?_) _ a h rfl (Int.le_refl _) (by omega) (Fr9.rf h) (fun _ _ => rfl) eb rfl⟩
  generalize hb : scanF tLe T n a = b at *
  have hab : 0 ≤ a ∧ a ≤ b ∧ b ≤ n := by omega
  -- one word more
  have word : ∀ (hh : HP) (s v : Int) (Q : HP → Prop), (0 ≤ s ∧ s < 6) → Fr9 h hh → (∀ j, j ≠ 4 → j ≠ 5 → hh 9 0 j = h 9 0 j) → hh 9 0 4 = b → (∀ h', Fr9 h h' → (∀ j, j ≠ 4 → j ≠ 5 → h' 9 0 j = h 9 0 j) → h' 9 0 4 = b → h' 9 0 5 = @ite Int (wordAt T a b s) (Classical.propDecidable _) v (hh 9 0 5) → Q h') →
      wX9_isWord 0 s hh (fun x13 h12 => (-2147483648 ≤ x13 ∧ x13 < 2147483648) ∧ ∀ t15 : Int, ((x13 = 0 → t15 = h12 9 0 5) ∧ (¬ x13 = 0 → t15 = v)) → ∀ h17 : HP, h17 = up h12 9 0 5 t15 → Q h17) := by
    intro hh s v Q hs ff jj e4 kk
    refine isWord_c (x.fr ff (jj 2 (by decide) (by decide))) (by rw [jj 3 (by decide) (by decide)]; exact ea) e4 hab hs (fun y hy hq => ⟨by omega, fun t ht h17 e17 => kk h17 (ff.tr (by rw [e17]; exact Fr9.up)) (fun j j1 j2 => by rw [e17, up_j j2]; exact jj j j1 j2) (by rw [e17, up_j (by decide)]; exact e4) ?_⟩)
    rw [e17, up_eq]
    by_cases w : wordAt T a b s
    · rw [if_pos w]; exact ht.2 (by have := hq.mpr w; omega)
    · rw [if_neg w]; exact ht.1 (by rcases hy with u | u; exact u; exact absurd (hq.mp u) w)
  intro h11 e11
  have f11 : Fr9 h h11 := f10.tr (by rw [e11]; exact Fr9.up)
  have j11 : ∀ j, j ≠ 4 → j ≠ 5 → h11 9 0 j = h 9 0 j := fun j j1 j2 => by rw [e11, up_j j2]; exact j10 j j1
  have b11 : h11 9 0 4 = b := by rw [e11, up_j (by decide)]; exact e10
  have k11 : h11 9 0 5 = 1 := by rw [e11, up_eq]
  refine word h11 3 4 _ (by omega) f11 j11 b11 (fun h17 f17 j17 b17 k17 => ?_)
  refine word h17 4 5 _ (by omega) f17 j17 b17 (fun h23 f23 j23 b23 k23 => ?_)
  refine word h23 5 6 _ (by omega) f23 j23 b23 (fun h29 f29 j29 b29 k29 => ?_)
  refine word h29 0 7 _ (by omega) f29 j29 b29 (fun h35 f35 j35 b35 k35 => ?_)
  refine word h35 1 8 _ (by omega) f35 j35 b35 (fun h41 f41 j41 b41 k41 => ?_)
  refine word h41 2 9 _ (by omega) f41 j41 b41 (fun h47 f47 j47 b47 k47 => ?_)
  refine k h47 f47 (j47 2 (by decide) (by decide)) ⟨by rw [j47 3 (by decide) (by decide)]; exact ea, b47, ?_, fun u => ?_⟩
  · rw [k47, k41, k35, k29, k23, k17, k11]; rfl
  · have u' : kindW T a b = 2 := u
    have := kindW_rng (T := T) (a := a) (b := b)
    omega
theorem takeNumber_c {h : HP} {T : Int → Int} {n a : Int} {P : HP → Prop} (x : TxC h T n) (ea : h 9 0 3 = a) (eb : h 9 0 4 = a) (ha : 0 ≤ a ∧ a < n)
    (k : ∀ h', Fr9 h h' → h' 9 0 2 = h 9 0 2 → TkC h' (a, scanF tDg T n a, 2, numV T a (scanF tDg T n a - a).toNat) → P h') : wX9_takeNumber 0 h P := by
  unfold wX9_takeNumber
  intro h1 e1 h2 e2
  have f2 : Fr9 h h2 := by rw [e2, e1]; exact Fr9.up.tr Fr9.up
  have after : ∀ hh p, Fr9 h hh → (∀ j, j ≠ 4 → j ≠ 5 → j ≠ 6 → hh 9 0 j = h 9 0 j) → hh 9 0 4 = p → hh 9 0 5 = 2 → hh 9 0 6 = numV T a (p - a).toNat → p = scanF tDg T n a → P hh := by
    intro hh p ff jj e4 e5 e6 hp
    subst hp
    exact k hh ff (jj 2 (by decide) (by decide) (by decide)) ⟨by rw [jj 3 (by decide) (by decide) (by decide)]; exact ea, e4, e5, fun _ => e6⟩
  have loop : ∀ (d : Nat) (p : Int) (hh : HP), (n - p).toNat = d → a ≤ p → p ≤ n → Fr9 h hh → (∀ j, j ≠ 4 → j ≠ 5 → j ≠ 6 → hh 9 0 j = h 9 0 j) → hh 9 0 4 = p → hh 9 0 5 = 2 → hh 9 0 6 = numV T a (p - a).toNat → scanF tDg T n p = scanF tDg T n a → wX9_takeNumber_10 0 (fun h20 => P h20) (d + 1) hh := by
    intro d
    induction d with
    | zero =>
      intro p hh hd p0 p1 ff jj e4 e5 e6 hs
      have e : p = n := by omega
      rw [wX9_takeNumber_10, e4, jj 2 (by decide) (by decide) (by decide), x.1]
      have hs' := hs
      rw [e, scan_end] at hs'
      exact ⟨by have := x.2.1; omega, by have := x.2.1; omega, fun _ => after hh p ff jj e4 e5 e6 (by rw [e]; exact hs'), fun u => absurd (by omega) u⟩
    | succ d ih =>
      intro p hh hd p0 p1 ff jj e4 e5 e6 hs
      have x2 := x.2.1
      rw [wX9_takeNumber_10, e4, jj 2 (by decide) (by decide) (by decide), x.1]
      refine ⟨by omega, by omega, fun u => absurd u (by omega), fun _ => isDigit_c (x.fr ff (jj 2 (by decide) (by decide) (by decide))) (by omega) (fun y hy hq => ⟨by omega, fun u => after hh p ff jj e4 e5 e6 ?_, fun u => ⟨by omega, fun h11 e11 => ?_⟩⟩)⟩
      · rw [← hs]
        exact (scan_stop (by omega) (fun w => by have := hq.mpr w; omega)).symm
      · have e3' : h11 9 0 3 = a := by rw [e11, up_j (by decide), jj 3 (by decide) (by decide) (by decide)]; exact ea
        have e4' : h11 9 0 4 = p := by rw [e11, up_j (by decide)]; exact e4
        have e6' : h11 9 0 6 = numV T a (p - a).toNat * 10 + T p - 48 := by
          rw [e11, up_eq, e6, e4, (ff 45 (by decide)), x.2.2.1 p (by omega) (by omega)]
        rw [e3', e4']
        refine ⟨by omega, fun t13 h13 h15 e15 h16 e16 => ?_⟩
        have ql : tDg (T p) := hq.mp (by omega)
        refine ih (p + 1) h16 (by omega) (by omega) (by omega) (ff.tr (by rw [e16, e15, e11]; exact Fr9.up.tr (Fr9.up.tr Fr9.up))) (fun j j1 j2 j3 => by rw [e16, up_j j1, e15, up_j j3, e11, up_j j3]; exact jj j j1 j2 j3) ?_ ?_ ?_ ?_
        · rw [e16, up_eq, e15, up_j (by decide), e4']
        · rw [e16, up_j (by decide), e15, up_j (by decide), e11, up_j (by decide)]; exact e5
        · rw [e16, up_j (by decide), e15, up_eq, show (p + 1 - a).toNat = (p - a).toNat + 1 by omega]
          unfold numV
          by_cases c : 3 ≤ (p - a).toNat
          · rw [if_pos c]; exact h13.2 (by omega)
          · rw [if_neg c, show a + (((p - a).toNat : Nat) : Int) = p by omega, ← e6']; exact h13.1 (by omega)
        · rw [← hs]; exact (scan_go (by omega) ql).symm
  refine ⟨_, loop _ a h2 rfl (Int.le_refl _) (by omega) f2 (fun j j1 j2 j3 => by rw [e2, up_j j3, e1, up_j j2]) ?_ ?_ ?_ rfl⟩
  · rw [e2, up_j (by decide), e1, up_j (by decide)]; exact eb
  · rw [e2, up_j (by decide), e1, up_eq]
  · rw [e2, up_eq, show (a - a).toNat = 0 by omega]; rfl
theorem takeToken_c {h : HP} {T : Int → Int} {n p : Int} {P : HP → Prop} (x : TxC h T n) (ep : h 9 0 4 = p) (hp : 0 ≤ p ∧ p ≤ n) (k : ∀ h', Fr9 h h' → TxC h' T n → TkC h' (tokA T n p) → P h') : wX9_takeToken 0 h P := by
  have x2 := x.2.1
  unfold wX9_takeToken
  intro h1 e1
  have loop : ∀ (Ko : HP → Prop), (∀ h13 a, Fr9 h h13 → (∀ j, j ≠ 3 → h13 9 0 j = h 9 0 j) → h13 9 0 3 = a → (0 ≤ a ∧ a ≤ n) → a = scanF tBl T n p → Ko h13) → ∀ (d : Nat) (a : Int) (hh : HP), (n - a).toNat = d → p ≤ a → a ≤ n → Fr9 h hh → (∀ j, j ≠ 3 → hh 9 0 j = h 9 0 j) → hh 9 0 3 = a → scanF tBl T n a = scanF tBl T n p → wX9_takeToken_8 0 Ko (d + 1) hh := by
    intro Ko after d
    induction d with
    | zero =>
      intro a hh hd a0 a1 ff jj e3 hs
      have e : a = n := by omega
      rw [wX9_takeToken_8, e3, jj 2 (by decide), x.1]
      have hs' := hs
      rw [e, scan_end] at hs'
      exact ⟨by omega, by omega, fun _ => after hh a ff jj e3 (by omega) (by rw [e]; exact hs'), fun u => absurd (by omega) u⟩
    | succ d ih =>
      intro a hh hd a0 a1 ff jj e3 hs
      have r := x.2.2.2 a (by omega) (by omega)
      have go : tBl (T a) → wX9_takeToken_47 0 (fun hy => wX9_takeToken_8 0 Ko (d + 1) hy) hh := by
        intro w h8 e8
        refine ih (a + 1) h8 (by omega) (by omega) (by omega) (ff.tr (by rw [e8]; exact Fr9.up)) (fun j j1 => by rw [e8, up_j j1]; exact jj j j1) (by rw [e8, up_eq, e3]) ?_
        rw [← hs]; exact (scan_go (by omega) w).symm
      rw [wX9_takeToken_8, e3, jj 2 (by decide), x.1, ff 45 (by decide), x.2.2.1 a (by omega) (by omega)]
      refine ⟨by omega, by omega, fun u => absurd u (by omega), fun _ => ⟨by omega, by omega, fun u => go (Or.inl u), fun u => ⟨by omega, by omega, fun u2 => after hh a ff jj e3 (by omega) ?_, fun u2 => go (Or.inr u2)⟩⟩⟩
      rw [← hs]
      exact (scan_stop (by omega) (fun w => by rcases w with w | w; exact u w; exact u2 w)).symm
  refine ⟨_, loop _ (fun h13 a f13 j13 e3 ra ha h14 e14 => ?_) _ p h1 rfl (Int.le_refl _) hp.2 (by rw [e1]; exact Fr9.up) (fun j j1 => by rw [e1, up_j j1]) (by rw [e1, up_eq, ep]) rfl⟩
  have f14 : Fr9 h h14 := f13.tr (by rw [e14]; exact Fr9.up)
  have j14 : ∀ j, j ≠ 3 → j ≠ 4 → h14 9 0 j = h 9 0 j := fun j j1 j2 => by rw [e14, up_j j2]; exact j13 j j1
  have a14 : h14 9 0 3 = a := by rw [e14, up_j (by decide)]; exact e3
  have b14 : h14 9 0 4 = a := by rw [e14, up_eq]; exact e3
  have n14 : h14 9 0 2 = n := by rw [j14 2 (by decide) (by decide)]; exact x.1
  have x14 : TxC h14 T n := x.fr f14 (j14 2 (by decide) (by decide))
  have kk : ∀ h' t, Fr9 h14 h' → h' 9 0 2 = h14 9 0 2 → tokB T n a = t → TkC h' t → P h' := by
    intro h' t f' e' et q
    refine k h' (f14.tr f') (x14.fr f' e') ?_
    unfold tokA
    rw [← ha, et]; exact q
  rw [a14, n14]
  refine ⟨by omega, by omega, fun c => isLetter_c x14 (by omega) (fun y hy hq => ⟨by omega, fun u => ?_, fun u => ?_⟩), fun c h36 e36 => ?_⟩
  · have nl : ¬ tLe (T a) := fun w => by have := hq.mpr w; omega
    rw [a14]
    refine isDigit_c x14 (by omega) (fun y2 hy2 hq2 => ⟨by omega, fun u2 => ?_, fun u2 => ?_⟩)
    · have nd : ¬ tDg (T a) := fun w => by have := hq2.mpr w; omega
      have r := x.2.2.2 a (by omega) (by omega)
      rw [a14, x14.2.2.1 a (by omega) (by omega)]
      refine ⟨by omega, by omega, fun t28 h28 h30 e30 h31 e31 => ?_⟩
      refine kk h31 (a, a + 1, if T a = 59 then 3 else 1, 0) (by rw [e31, e30]; exact Fr9.up.tr Fr9.up) (by rw [e31, up_j (by decide), e30, up_j (by decide)]) ?_ ⟨?_, ?_, ?_, fun w => ?_⟩
      · unfold tokB; rw [if_neg (by omega), if_neg nl, if_neg nd]
      · rw [e31, up_j (by decide), e30, up_j (by decide)]; exact a14
      · show _ = a + 1
        rw [e31, up_eq, e30, up_j (by decide), a14]
      · show _ = (if T a = 59 then (3 : Int) else 1)
        rw [e31, up_j (by decide), e30, up_eq]
        by_cases w : T a = 59
        · rw [if_pos w]; exact h28.2 w
        · rw [if_neg w]; exact h28.1 w
      · have w' : (if T a = 59 then (3 : Int) else 1) = 2 := w
        split at w' <;> omega
    · have dg : tDg (T a) := hq2.mp (by omega)
      refine takeNumber_c x14 a14 b14 (by omega) (fun h' f' e' q => kk h' _ f' e' ?_ q)
      unfold tokB; rw [if_neg (by omega), if_neg nl, if_pos dg]
  · have lt : tLe (T a) := hq.mp (by omega)
    refine takeWord_c x14 a14 b14 (by omega) lt (fun h' f' e' q => kk h' _ f' e' ?_ q)
    unfold tokB; rw [if_neg (by omega), if_pos lt]
  · refine kk h36 (a, a, 0, 0) (by rw [e36]; exact Fr9.up) (by rw [e36, up_j (by decide)]) ?_ ⟨?_, ?_, ?_, fun w => ?_⟩
    · unfold tokB; rw [if_pos (by omega)]
    · rw [e36, up_j (by decide)]; exact a14
    · rw [e36, up_j (by decide)]; exact b14
    · rw [e36, up_eq]
    · have w' : (0 : Int) = 2 := w
      omega
