/-! the text: the reference steps on -/
def TxR (h : HP) (T : Int → Int) (n : Int) : Prop := h 12 7 14 = n ∧ (0 ≤ n ∧ n ≤ 700) ∧ (∀ j, 0 ≤ j → j < n → h 58 7 j = T j) ∧ ∀ j, 0 ≤ j → j < n → 0 ≤ T j ∧ T j ≤ 255
def TkK (T : Int → Int) (t : TK) (x : Int) : Prop := (0 ≤ x ∧ x ≤ 4) ∧ (x = 0 ↔ t.2.2.1 = 0) ∧ (x = 2 ↔ t.2.2.1 = 2) ∧ (x = 3 ↔ t.2.2.1 = 3) ∧ (x = 1 → t.2.2.1 = kindW T t.1 t.2.1) ∧ (4 ≤ t.2.2.1 → x = 1)
def TkR (h : HP) (T : Int → Int) (t : TK) : Prop := h 12 7 13 = t.2.1 ∧ h 12 7 17 = t.1 ∧ h 12 7 18 = t.2.1 ∧ TkK T t (h 12 7 15) ∧ (t.2.2.1 = 2 → (0 ≤ h 12 7 16 ∧ h 12 7 16 ≤ 100000) ∧ (t.2.1 - t.1 ≤ 3 → h 12 7 16 = t.2.2.2) ∧ (3 < t.2.1 - t.1 → t.2.2.2 = 1000000))
def tkJ (j : Int) : Prop := j = 13 ∨ j = 15 ∨ j = 16 ∨ j = 17 ∨ j = 18
def FrK (h h' : HP) : Prop := (∀ k, k ≠ 12 → h' k = h k) ∧ ∀ j, ¬ tkJ j → h' 12 7 j = h 12 7 j
theorem FrK.rf (h : HP) : FrK h h := ⟨fun _ _ => rfl, fun _ _ => rfl⟩
theorem FrK.tr {h h' h'' : HP} (a : FrK h h') (b : FrK h' h'') : FrK h h'' := ⟨fun k hk => by rw [b.1 k hk, a.1 k hk], fun j hj => by rw [b.2 j hj, a.2 j hj]⟩
theorem FrK.up {h : HP} {j v : Int} (hj : tkJ j) : FrK h (up h 12 7 j v) := ⟨fun k hk => up_k hk, fun i hi => up_j (fun z => hi (by rw [z]; exact hj))⟩
theorem TxR.fr {h h' : HP} {T : Int → Int} {n : Int} (q : TxR h T n) (f : FrK h h') : TxR h' T n := by
  unfold TxR at *
  rw [f.1 58 (by decide), f.2 14 (by unfold tkJ; omega)]; exact q
def btA' (T : Int → Int) (n a : Int) : Int := if n ≤ a then -1 else T a
theorem byteAt_r {h : HP} {T : Int → Int} {n a : Int} {P : Int → HP → Prop} (x : TxR h T n) (ha : 0 ≤ a ∧ a ≤ n) (k : P (btA' T n a) h) : wX12_byteAt 7 a h P := by
  obtain ⟨x1, x2, x3, x4⟩ := x
  unfold wX12_byteAt
  rw [x1]
  refine ⟨⟨by omega, by omega, fun _ => by omega⟩, fun t4 h4 => ?_⟩
  have : t4 = btA' T n a := by
    unfold btA'
    by_cases c : n ≤ a
    · rw [if_pos c]; exact h4.1 c
    · rw [if_neg c, h4.2 c]; exact x3 a (by omega) (by omega)
  rw [this]; exact k
theorem btA_rng {h : HP} {T : Int → Int} {n a : Int} (x : TxR h T n) (ha : 0 ≤ a ∧ a ≤ n) : -1 ≤ btA' T n a ∧ btA' T n a ≤ 255 ∧ (btA' T n a = -1 ↔ n ≤ a) ∧ (a < n → btA' T n a = T a) := by
  unfold btA'
  by_cases c : n ≤ a
  · rw [if_pos c]; omega
  · have := x.2.2.2 a ha.1 (by omega)
    rw [if_neg c]; omega
theorem isLetter_r {a : Int} {h : HP} {P : Int → HP → Prop} (ha : inR a) (k : ∀ y, (y = 0 ∨ y = 1) → (y = 1 ↔ tLe a) → P y h) : wX12_isLetter a h P := by
  unfold inR at ha
  unfold wX12_isLetter
  refine ⟨⟨ha, fun _ => ha⟩, fun t3 h3 => ?_⟩
  have : (t3 = 0 ∨ t3 = 1) ∧ (t3 = 1 ↔ tLe a) := by
    unfold tLe
    by_cases c : a < 97
    · rw [h3.1 c]; omega
    · by_cases c2 : 122 < a
      · rw [(h3.2 c).1 c2]; omega
      · rw [(h3.2 c).2 c2]; omega
  exact ⟨this.1, k t3 this.1 this.2⟩
theorem isDigit_r {a : Int} {h : HP} {P : Int → HP → Prop} (ha : inR a) (k : ∀ y, (y = 0 ∨ y = 1) → (y = 1 ↔ tDg a) → P y h) : wX12_isDigit a h P := by
  unfold inR at ha
  unfold wX12_isDigit
  refine ⟨⟨ha, fun _ => ha⟩, fun t3 h3 => ?_⟩
  have : (t3 = 0 ∨ t3 = 1) ∧ (t3 = 1 ↔ tDg a) := by
    unfold tDg
    by_cases c : a < 48
    · rw [h3.1 c]; omega
    · by_cases c2 : 57 < a
      · rw [(h3.2 c).1 c2]; omega
      · rw [(h3.2 c).2 c2]; omega
  exact ⟨this.1, k t3 this.1 this.2⟩
theorem blanks_r {h : HP} {T : Int → Int} {n : Int} (x : TxR h T n) : ∀ (Ko : HP → Prop) (p0 : Int), (∀ hh a, FrK h hh → hh 12 7 13 = a → (0 ≤ a ∧ a ≤ n) → a = scanF tBl T n p0 → Ko hh) → ∀ (d : Nat) (p : Int) (hh : HP), (n - p).toNat = d → 0 ≤ p → p ≤ n → FrK h hh → hh 12 7 13 = p → scanF tBl T n p = scanF tBl T n p0 → wX12_stepOn_0 7 Ko (d + 1) hh := by
  intro Ko p0 after d
  induction d with
  | zero =>
    intro p hh hd q0 q1 ff ep hs
    have e : p = n := by omega
    have xh := x.fr ff
    rw [wX12_stepOn_0, ep]
    refine byteAt_r xh (by omega) ?_
    have b := btA_rng xh (a := p) (by omega)
    have e1 : btA' T n p = -1 := b.2.2.1.mpr (by omega)
    rw [e1]
    refine ⟨by omega, fun u => by omega, fun u => ?_⟩
    rw [ep]
    refine byteAt_r xh (by omega) ?_
    rw [e1]
    refine ⟨by omega, fun u2 => after hh p ff ep (by omega) ?_, fun u2 => by omega⟩
    rw [← hs, e, scan_end]
  | succ d ih =>
    intro p hh hd q0 q1 ff ep hs
    have xh := x.fr ff
    have b := btA_rng xh (a := p) (by omega)
    have e1 : btA' T n p = T p := b.2.2.2 (by omega)
    have go : tBl (T p) → wX12_stepOn_26 7 (fun hy => wX12_stepOn_0 7 Ko (d + 1) hy) hh := by
      intro w h5 e5
      refine ih (p + 1) h5 (by omega) (by omega) (by omega) (ff.tr (by rw [e5]; exact FrK.up (Or.inl rfl))) (by rw [e5, up_eq, ep]) ?_
      rw [← hs]; exact (scan_go (by omega) w).symm
    rw [wX12_stepOn_0, ep]
    refine byteAt_r xh (by omega) ?_
    rw [e1] at b ⊢
    refine ⟨by omega, fun u => go (Or.inl u), fun u => ?_⟩
    rw [ep]
    refine byteAt_r xh (by omega) ?_
    rw [e1]
    refine ⟨by omega, fun u2 => after hh p ff ep (by omega) ?_, fun u2 => go (Or.inr u2)⟩
    rw [← hs]
    exact (scan_stop (by omega) (fun w => by rcases w with w | w; exact u w; exact u2 w)).symm
theorem word_r {h : HP} {T : Int → Int} {n : Int} (x : TxR h T n) : ∀ (Ko : HP → Prop) (p0 : Int), (∀ hh a, FrK h hh → (∀ j, j ≠ 13 → hh 12 7 j = h 12 7 j) → hh 12 7 13 = a → a = scanF tLe T n p0 → Ko hh) → ∀ (d : Nat) (p : Int) (hh : HP), (n - p).toNat = d → 0 ≤ p → p ≤ n → FrK h hh → (∀ j, j ≠ 13 → hh 12 7 j = h 12 7 j) → hh 12 7 13 = p → scanF tLe T n p = scanF tLe T n p0 → wX12_stepOn_76 7 Ko (d + 1) hh := by
  intro Ko p0 after d
  induction d with
  | zero =>
    intro p hh hd q0 q1 ff jj ep hs
    have e : p = n := by omega
    have xh := x.fr ff
    rw [wX12_stepOn_76, ep]
    refine byteAt_r xh (by omega) ?_
    have b := btA_rng xh (a := p) (by omega)
    have e1 : btA' T n p = -1 := b.2.2.1.mpr (by omega)
    rw [e1]
    refine isLetter_r (by unfold inR; omega) (fun y hy hq => ⟨by omega, fun u => after hh p ff jj ep ?_, fun u => ?_⟩)
    · rw [← hs, e, scan_end]
    · have := hq.mp (by omega)
      unfold tLe at this; omega
  | succ d ih =>
    intro p hh hd q0 q1 ff jj ep hs
    have xh := x.fr ff
    have b := btA_rng xh (a := p) (by omega)
    have e1 : btA' T n p = T p := b.2.2.2 (by omega)
    rw [wX12_stepOn_76, ep]
    refine byteAt_r xh (by omega) ?_
    rw [e1] at b ⊢
    refine isLetter_r (by unfold inR; omega) (fun y hy hq => ⟨by omega, fun u => after hh p ff jj ep ?_, fun u h55 e55 => ?_⟩)
    · rw [← hs]; exact (scan_stop (by omega) (fun w => by have := hq.mpr w; omega)).symm
    · refine ih (p + 1) h55 (by omega) (by omega) (by omega) (ff.tr (by rw [e55]; exact FrK.up (Or.inl rfl))) (fun j hj => by rw [e55, up_j hj]; exact jj j hj) (by rw [e55, up_eq, ep]) ?_
      rw [← hs]; exact (scan_go (by omega) (hq.mp (by omega))).symm
theorem number_r {h : HP} {T : Int → Int} {n : Int} (x : TxR h T n) : ∀ (Ko : HP → Prop) (p0 : Int), 0 ≤ p0 → p0 ≤ n → (∀ hh a, FrK h hh → (∀ j, j ≠ 13 → j ≠ 16 → hh 12 7 j = h 12 7 j) → hh 12 7 13 = a → a = scanF tDg T n p0 → (0 ≤ hh 12 7 16 ∧ hh 12 7 16 ≤ 100000) → (a - p0 ≤ 3 → hh 12 7 16 = numV T p0 (a - p0).toNat) → Ko hh) → ∀ (d : Nat) (p : Int) (hh : HP), (n - p).toNat = d → p0 ≤ p → p ≤ n → (∀ j, p0 ≤ j → j < p → tDg (T j)) → FrK h hh → (∀ j, j ≠ 13 → j ≠ 16 → hh 12 7 j = h 12 7 j) → hh 12 7 13 = p → (0 ≤ hh 12 7 16 ∧ hh 12 7 16 ≤ 100000) → (p - p0 ≤ 3 → hh 12 7 16 = numV T p0 (p - p0).toNat) → scanF tDg T n p = scanF tDg T n p0 → wX12_stepOn_123 7 Ko (d + 1) hh := by
  intro Ko p0 p00 p0n after d
  induction d with
  | zero =>
    intro p hh hd q0 q1 dg ff jj ep r16 v16 hs
    have e : p = n := by omega
    have xh := x.fr ff
    rw [wX12_stepOn_123, ep]
    refine byteAt_r xh (by omega) ?_
    have b := btA_rng xh (a := p) (by omega)
    have e1 : btA' T n p = -1 := b.2.2.1.mpr (by omega)
    rw [e1]
    refine isDigit_r (by unfold inR; omega) (fun y hy hq => ⟨by omega, fun u => after hh p ff jj ep ?_ r16 v16, fun u => ?_⟩)
    · rw [← hs, e, scan_end]
    · have := hq.mp (by omega)
      unfold tDg at this; omega
  | succ d ih =>
    intro p hh hd q0 q1 dg ff jj ep r16 v16 hs
    have xh := x.fr ff
    have b := btA_rng xh (a := p) (by omega)
    have e1 : btA' T n p = T p := b.2.2.2 (by omega)
    rw [wX12_stepOn_123, ep]
    refine byteAt_r xh (by omega) ?_
    rw [e1] at b ⊢
    refine isDigit_r (by unfold inR; omega) (fun y hy hq => ⟨by omega, fun u => after hh p ff jj ep ?_ r16 v16, fun u => ?_⟩)
    · rw [← hs]; exact (scan_stop (by omega) (fun w => by have := hq.mpr w; omega)).symm
    · have qd : tDg (T p) := hq.mp (by omega)
      have qd' := qd
      unfold tDg at qd'
      rw [ep]
      refine byteAt_r xh (by omega) ?_
      rw [e1]
      refine ⟨by omega, fun h43 e43 h44 e44 => ?_⟩
      have dg' : ∀ j, p0 ≤ j → j < p + 1 → tDg (T j) := fun j j0 j1 => by
        by_cases w : j = p
        · rw [w]; exact qd
        · exact dg j j0 (by omega)
      have v44 : h44 12 7 16 = min 100000 (10 * hh 12 7 16 + T p - 48) := by rw [e44, up_j (by decide), e43, up_eq]
      refine ih (p + 1) h44 (by omega) (by omega) (by omega) dg' (ff.tr (by rw [e44, e43]; exact (FrK.up (by unfold tkJ; omega)).tr (FrK.up (by unfold tkJ; omega)))) (fun j j1 j2 => by rw [e44, up_j j1, e43, up_j j2]; exact jj j j1 j2) (by rw [e44, up_eq, e43, up_j (by decide), ep]) (by rw [v44]; omega) (fun w => ?_) ?_
      · have v := v16 (by omega)
        have nr := numV_rng (T := T) (a := p0) (p + 1 - p0).toNat (fun j j0 j1 => dg' j j0 (by omega))
        have nr1 := nr.1 (by omega)
        have e2 : (p + 1 - p0).toNat = (p - p0).toNat + 1 := by omega
        rw [e2] at nr1 ⊢
        have ev : numV T p0 ((p - p0).toNat + 1) = numV T p0 (p - p0).toNat * 10 + T p - 48 := by
          show (if 3 ≤ (p - p0).toNat then 1000000 else numV T p0 (p - p0).toNat * 10 + T (p0 + ((p - p0).toNat : Nat)) - 48) = _
          rw [if_neg (by omega), show p0 + (((p - p0).toNat : Nat) : Int) = p by omega]
        have p3 : (10 : Int) ^ ((p - p0).toNat + 1) ≤ 1000 := by
          have : (p - p0).toNat = 0 ∨ (p - p0).toNat = 1 ∨ (p - p0).toNat = 2 := by omega
          rcases this with z | z | z <;> rw [z] <;> decide
        rw [v44, v]
        omega
      · rw [← hs]; exact (scan_go (by omega) qd).symm
theorem stepOn_r {h : HP} {T : Int → Int} {n p : Int} {P : HP → Prop} (x : TxR h T n) (ep : h 12 7 13 = p) (hp : 0 ≤ p ∧ p ≤ n) (k : ∀ h', FrK h h' → TxR h' T n → TkR h' T (tokA T n p) → P h') : wX12_stepOn 7 h P := by
  have x2 := x.2.1
  unfold wX12_stepOn
  refine ⟨_, blanks_r x _ p (fun h11 a f11 e13 ra ha h12 e12 => ?_) _ p h rfl hp.1 hp.2 (FrK.rf h) ep rfl⟩
  have f12 : FrK h h12 := f11.tr (by rw [e12]; exact FrK.up (by unfold tkJ; omega))
  have x12 := x.fr f12
  have a12 : h12 12 7 13 = a := by rw [e12, up_j (by decide)]; exact e13
  have b12 : h12 12 7 17 = a := by rw [e12, up_eq, e13]
  have kk : ∀ h' t, FrK h12 h' → tokB T n a = t → TkR h' T t → P h' := by
    intro h' t f' et q
    refine k h' (f12.tr f') (x12.fr f') ?_
    unfold tokA
    rw [← ha, et]; exact q
  rw [a12]
  refine byteAt_r x12 ra ?_
  have b := btA_rng x12 ra
  refine ⟨by omega, fun u => ?_, fun u h60 e60 h61 e61 => ?_⟩
  · have an : a < n := by have := b.2.2.1; omega
    have e1 : btA' T n a = T a := b.2.2.2 an
    rw [e1] at b u ⊢
    refine isLetter_r (by unfold inR; omega) (fun y hy hq => ⟨by omega, fun u1 => ?_, fun u1 => ?_⟩)
    · have nl : ¬ tLe (T a) := fun w => by have := hq.mpr w; omega
      refine isDigit_r (by unfold inR; omega) (fun y2 hy2 hq2 => ⟨by omega, fun u2 h25 e25 => ⟨by omega, fun t27 h27 h29 e29 h30 e30 => ?_⟩, fun u2 h33 e33 => ?_⟩)
      · have nd : ¬ tDg (T a) := fun w => by have := hq2.mpr w; omega
        refine kk h30 (a, a + 1, if T a = 59 then 3 else 1, 0) (by rw [e30, e29, e25]; exact (FrK.up (by unfold tkJ; omega)).tr ((FrK.up (by unfold tkJ; omega)).tr (FrK.up (by unfold tkJ; omega)))) (by unfold tokB; rw [if_neg (by omega), if_neg nl, if_neg nd]) ⟨?_, ?_, ?_, ?_, fun w => ?_⟩
        · show _ = a + 1
          rw [e30, up_j (by decide), e29, up_j (by decide), e25, up_eq, a12]
        · rw [e30, up_j (by decide), e29, up_j (by decide), e25, up_j (by decide)]; exact b12
        · show _ = a + 1
          rw [e30, up_eq, e29, up_j (by decide), e25, up_eq, a12]
        · have e15 : h30 12 7 15 = t27 := by rw [e30, up_j (by decide), e29, up_eq]
          rw [e15]
          by_cases w : T a = 59
          · rw [h27.2 w, if_pos w]
            exact ⟨by omega, Iff.rfl, Iff.rfl, Iff.rfl, fun z => absurd z (by decide), fun z => by have z' : (4 : Int) ≤ 3 := z; omega⟩
          · rw [h27.1 w, if_neg w]
            have z0 : (4 : Int) = 0 ↔ (1 : Int) = 0 := by omega
            have z2 : (4 : Int) = 2 ↔ (1 : Int) = 2 := by omega
            have z3 : (4 : Int) = 3 ↔ (1 : Int) = 3 := by omega
            exact ⟨by omega, z0, z2, z3, fun z => absurd z (by decide), fun z => by have z' : (4 : Int) ≤ 1 := z; omega⟩
        · have w' : (if T a = 59 then (3 : Int) else 1) = 2 := w
          split at w' <;> omega
      · have dg : tDg (T a) := hq2.mp (by omega)
        have f33 : FrK h12 h33 := by rw [e33]; exact FrK.up (by unfold tkJ; omega)
        have x33 := x12.fr f33
        refine ⟨_, number_r x33 _ a ra.1 ra.2 (fun h46 c f46 j46 e46 hc r16 v16 h47 e47 h48 e48 => ?_) _ a h33 rfl (Int.le_refl _) ra.2 (fun j j0 j1 => by omega) (FrK.rf h33) (fun _ _ _ => rfl) (by rw [e33, up_j (by decide)]; exact a12) (by rw [e33, up_eq]; omega) (fun _ => by rw [e33, up_eq, show (a - a).toNat = 0 by omega]; rfl) rfl⟩
        have up := scan_up (n := n) an dg
        have dr := (scan_rng (q := tDg) (T := T) (n := n) _ a rfl ra.2).2.2
        rw [← hc] at up dr
        refine kk h48 (a, c, 2, numV T a (c - a).toNat) (f33.tr (f46.tr (by rw [e48, e47]; exact (FrK.up (by unfold tkJ; omega)).tr (FrK.up (by unfold tkJ; omega))))) (by unfold tokB; rw [if_neg (by omega), if_neg nl, if_pos dg, hc]) ⟨?_, ?_, ?_, ?_, fun w => ⟨?_, fun w2 => ?_, fun w2 => ?_⟩⟩
        · rw [e48, up_j (by decide), e47, up_j (by decide)]; exact e46
        · rw [e48, up_j (by decide), e47, up_j (by decide), j46 17 (by decide) (by decide), e33, up_j (by decide)]; exact b12
        · rw [e48, up_eq, e47, up_j (by decide)]; exact e46
        · rw [e48, up_j (by decide), e47, up_eq]
          exact ⟨by omega, Iff.rfl, Iff.rfl, Iff.rfl, fun z => absurd z (by decide), fun z => by have z' : (4 : Int) ≤ 2 := z; omega⟩
        · rw [e48, up_j (by decide), e47, up_j (by decide)]; exact r16
        · rw [e48, up_j (by decide), e47, up_j (by decide)]; exact v16 w2
        · have w2' : 3 < c - a := w2
          exact (numV_rng (T := T) (a := a) (c - a).toNat (fun j j0 j1 => dr j j0 (by omega))).2 (by omega)
    · have lt : tLe (T a) := hq.mp (by omega)
      refine ⟨_, word_r x12 _ a (fun h57 c f57 j57 e57 hc h58 e58 h59 e59 => ?_) _ a h12 rfl ra.1 ra.2 (FrK.rf h12) (fun _ _ => rfl) a12 rfl⟩
      refine kk h59 (a, c, kindW T a c, 0) (f57.tr (by rw [e59, e58]; exact (FrK.up (by unfold tkJ; omega)).tr (FrK.up (by unfold tkJ; omega)))) (by unfold tokB; rw [if_neg (by omega), if_pos lt, hc]) ⟨?_, ?_, ?_, ?_, fun w => ?_⟩
      · rw [e59, up_j (by decide), e58, up_j (by decide)]; exact e57
      · rw [e59, up_j (by decide), e58, up_j (by decide), j57 17 (by decide)]; exact b12
      · rw [e59, up_eq, e58, up_j (by decide)]; exact e57
      · rw [e59, up_j (by decide), e58, up_eq]
        have kr := kindW_rng (T := T) (a := a) (b := c)
        have z0 : (1 : Int) = 0 ↔ kindW T a c = 0 := by omega
        have z2 : (1 : Int) = 2 ↔ kindW T a c = 2 := by omega
        have z3 : (1 : Int) = 3 ↔ kindW T a c = 3 := by omega
        exact ⟨by omega, z0, z2, z3, fun _ => rfl, fun _ => rfl⟩
      · have w' : kindW T a c = 2 := w
        have := kindW_rng (T := T) (a := a) (b := c)
        omega
  · have an : n ≤ a := b.2.2.1.mp u
    refine kk h61 (a, a, 0, 0) (by rw [e61, e60]; exact (FrK.up (by unfold tkJ; omega)).tr (FrK.up (by unfold tkJ; omega))) (by unfold tokB; rw [if_pos an]) ⟨?_, ?_, ?_, ?_, fun w => by have w' : (0 : Int) = 2 := w; omega⟩
    · rw [e61, up_j (by decide), e60, up_j (by decide)]; exact a12
    · rw [e61, up_j (by decide), e60, up_j (by decide)]; exact b12
    · rw [e61, up_eq, e60, up_j (by decide)]; exact a12
    · rw [e61, up_j (by decide), e60, up_eq]
      exact ⟨by omega, Iff.rfl, Iff.rfl, Iff.rfl, fun z => absurd z (by decide), fun z => by have z' : (4 : Int) ≤ 0 := z; omega⟩
theorem is_r {h : HP} {T : Int → Int} {n s : Int} {t : TK} {P : Int → HP → Prop} (x : TxR h T n) (q : TkR h T t) (hb : h 12 7 19 = 0) (ht : 0 ≤ t.1 ∧ t.1 ≤ t.2.1 ∧ t.2.1 ≤ n) (hs : 0 ≤ s ∧ s < 6) (k : ∀ y, (y = 0 ∨ y = 1) → (y = 1 ↔ t.2.2.1 = kdS s) → P y h) : wX12_is 7 s h P := by
  obtain ⟨q1, q2, q3, q4, q5⟩ := q
  obtain ⟨c1, c2, c3, c4, c5, c6⟩ := q4
  have sr := str_rng hs
  have x2 := x.2.1
  have kd4 : 4 ≤ kdS s := by unfold kdS; split; omega; split; omega; split <;> omega
  have no : ¬ (h 12 7 15 = 1 ∧ wordAt T t.1 t.2.1 s) → wX12_is_35 7 s P h := by
    intro nw
    unfold wX12_is_35 wX12_is_36
    refine ⟨1, ?_⟩
    rw [wX12_is_39]
    refine ⟨by omega, fun _ => ⟨Or.inl rfl, k 0 (Or.inl rfl) ⟨fun u => by omega, fun u => ?_⟩⟩, fun u => absurd rfl u⟩
    have e1 := c6 (by omega)
    exact absurd ⟨e1, (kindW_iff hs).mp (by rw [← c5 e1]; exact u)⟩ nw
  unfold wX12_is
  rw [hb, q3, q2]
  refine ⟨by omega, fun u => absurd rfl u, fun _ => ⟨by omega, fun u => no (fun w => u w.1), fun u => ⟨by omega, by omega, fun u2 => no (fun w => u2 w.2.1.symm), fun u2 => ?_⟩⟩⟩
  unfold wX12_is_36
  have loop : ∀ (d : Nat) (i y : Int), (strL s - i).toNat = d → 0 ≤ i → i ≤ strL s → (y = 0 ∨ y = 1) → (y = 1 ↔ ∀ j, 0 ≤ j → j < i → T (t.1 + j) = strC s j) → wX12_is_39 7 s (fun l17 h18 => (l17 = 0 ∨ l17 = 1) ∧ P l17 h18) (d + 1) y i h := by
    have fin : ∀ y, (y = 0 ∨ y = 1) → (y = 1 ↔ ∀ j, 0 ≤ j → j < strL s → T (t.1 + j) = strC s j) → (y = 0 ∨ y = 1) ∧ P y h := by
      intro y hy hq
      refine ⟨hy, k y hy ?_⟩
      rw [hq, c5 u, kindW_iff hs]
      exact ⟨fun w => ⟨u2.symm, w⟩, fun w => w.2⟩
    intro d
    induction d with
    | zero =>
      intro i y hd i0 i1 hy hq
      have e : i = strL s := by omega
      rw [e] at hq
      rw [wX12_is_39]
      refine ⟨by omega, fun _ => fin y hy hq, fun _ => ⟨by omega, by omega, fun _ => fin y hy hq, fun w => absurd (by omega) w⟩⟩
    | succ d ih =>
      intro i y hd i0 i1 hy hq
      have r := x.2.2.2 (t.1 + i) (by omega) (by omega)
      have sc := sr.2 i i0 (by omega)
      rw [wX12_is_39, q2, x.2.2.1 (t.1 + i) (by omega) (by omega)]
      refine ⟨by omega, fun w => fin y hy ⟨fun w2 => by omega, fun w2 => hq.mpr (fun j j0 j1 => w2 j j0 (by omega))⟩, fun w => ⟨by omega, by omega, fun w2 => absurd w2 (by omega), fun _ => ⟨by omega, by omega, by omega, fun t12 h12 => ih (i + 1) t12 (by omega) (by omega) (by omega) ?_ ?_⟩⟩⟩
      · by_cases z : strC s i = T (t.1 + i)
        · rw [h12.2 z]; omega
        · rw [h12.1 z]; omega
      · have all := hq.mp (by omega)
        by_cases z : strC s i = T (t.1 + i)
        · rw [h12.2 z]
          refine ⟨fun _ j j0 j1 => ?_, fun _ => rfl⟩
          by_cases z2 : j = i
          · rw [z2]; exact z.symm
          · exact all j j0 (by omega)
        · rw [h12.1 z]
          exact ⟨fun w2 => by omega, fun w2 => absurd (w2 i i0 (by omega)).symm z⟩
  exact ⟨_, loop _ 0 1 rfl (by omega) (by omega) (Or.inr rfl) ⟨fun _ j j0 j1 => by omega, fun _ => rfl⟩⟩
