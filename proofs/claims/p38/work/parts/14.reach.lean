theorem IsMax.step {i : Int} {f : Int → Int} {m : Int} (h0 : 0 ≤ i) (h : IsMax i f m) : IsMax (i + 1) f (max m (f i)) := by
  obtain ⟨a1, a2, a3⟩ := h
  refine ⟨by omega, fun j j0 j1 => ?_, ?_⟩
  · by_cases z : j < i
    · have := a2 j j0 z; omega
    · have : j = i := by omega
      subst this; omega
  · by_cases z : m ≤ f i
    · exact Or.inr ⟨i, h0, by omega, by omega⟩
    · rcases a3 with q | ⟨j, j0, j1, j2⟩
      · exact Or.inl (by omega)
      · exact Or.inr ⟨j, j0, by omega, by omega⟩
theorem reached_g {h : HP} {L s n a v : Int} {σ : ST} {P : Int → HP → Prop} (hs : 0 ≤ s ∧ s < 36) (q : CurveC h L s σ) (o : slotOK σ s) (hm : 0 < σ 11 s 0) (ha : 0 ≤ a ∧ a ≤ 100) (hn : cur σ s ≤ n ∧ n ≤ 20000)
    (hv : IsMax (h 17 L s) (fun i => reachA a (σ 10 s 0) (σ 11 s 0) (h 18 L (s * 32 + i)) (h 19 L (s * 32 + i)) n) v) (hv2 : v < 2147483648) (k : P v h) : wX1_reached L s n a h P := by
  obtain ⟨b1, b2, b3, b4, b5, b6⟩ := q
  have hb := b6.2.1
  have hc := b6.1
  have w := o.1.2 hm
  unfold wellC at w
  have hxB : xB = 18000000 := rfl
  have hmul := mul_rng (a := a) (b := σ 10 s 0) (A := 100) (B := 30) (by omega) (by omega) (by omega) (by omega) (by omega)
  unfold wX1_reached
  refine ⟨hs, hs, ?_⟩
  rw [b2, b3]
  have key : ∀ (d : Nat) (i m : Int), h 17 L s - i = d → 0 ≤ i → IsMax i (fun i => reachA a (σ 10 s 0) (σ 11 s 0) (h 18 L (s * 32 + i)) (h 19 L (s * 32 + i)) n) m → wX1_reached_31 L s n a (σ 11 s 0) (a * σ 10 s 0) (s * 32) h (fun l55 => P l55 h) (d + 1) m (s * 32 + i) := by
    intro d
    induction d with
    | zero =>
      intro i m hd hi hmx
      rw [wX1_reached_31]
      have : i = h 17 L s := by omega
      subst this
      rw [hmx.uniq hv]
      exact ⟨hs, by omega, by omega, fun _ => k, fun c => absurd (Int.le_refl _) c⟩
    | succ d ih =>
      intro i m hd hi hmx
      have e := hb i hi (by omega)
      have hmx' := hmx.step hi
      have hf := ih (i + 1) _ (by omega) (by omega) hmx'
      have fi := hv.2.1 i hi (by omega)
      have fx := reachA_x (m1 := a) (d := σ 10 s 0) (m2 := σ 11 s 0) (x := h 18 L (s * 32 + i)) (y := h 19 L (s * 32 + i)) (n := n) (by omega) (by omega) (by omega)
      have mv : m ≤ v := by
        rcases hmx.2.2 with z | ⟨j, j0, j1, j2⟩
        · have := hv.1; omega
        · have := hv.2.1 j j0 (by omega); omega
      have m0 := hmx.1
      rw [wX1_reached_31]
      refine ⟨hs, by omega, by omega, fun c => absurd c (by omega), fun _ => ⟨by omega, by omega, ⟨by omega, by omega, fun c => ⟨by omega, fun c2 => ⟨by omega, fun c3 => ⟨by omega, by omega⟩⟩⟩, fun c => ⟨by omega, fun c2 => absurd c2 (by omega), fun _ => ⟨hs, by omega, by omega⟩⟩⟩, fun t23 h23 => ?_⟩⟩
      rw [b2] at h23
      have e23 := reachA_of (m1 := a) (d := σ 10 s 0) (m2 := σ 11 s 0) (x := h 18 L (s * 32 + i)) (y := h 19 L (s * 32 + i)) (n := n) (by omega) (by omega) (by omega) rfl h23
      have fi' : reachA a (σ 10 s 0) (σ 11 s 0) (h 18 L (s * 32 + i)) (h 19 L (s * 32 + i)) n ≤ v := fi
      rw [← e23] at fi' fx
      refine ⟨⟨by omega, by omega⟩, fun t27 h27 => ?_⟩
      have e27 : t27 = max m (reachA a (σ 10 s 0) (σ 11 s 0) (h 18 L (s * 32 + i)) (h 19 L (s * 32 + i)) n) := by
        rw [← e23]
        by_cases z : t23 ≤ m
        · rw [h27.1 z]; omega
        · rw [h27.2 z]; omega
      rw [e27, show s * 32 + i + 1 = s * 32 + (i + 1) by omega]
      exact hf
  have := key (h 17 L s).toNat 0 0 (by omega) (Int.le_refl _) IsMax.zero
  rw [show s * 32 + 0 = s * 32 by omega] at this
  exact ⟨_, this⟩
theorem reached_F {h : HP} {L s n : Int} {σ : ST} {P : Int → HP → Prop} (hs : 0 ≤ s ∧ s < 36) (q : CurveC h L s σ) (o : slotOK σ s) (hm : 0 < σ 11 s 0) (hn : cur σ s ≤ n ∧ n ≤ 20000) (hv2 : σ 12 s n < 2147483648) (k : P (σ 12 s n) h) : wX1_reached L s n (h 13 L s) h P := by
  have w := o.1.2 hm
  unfold wellC at w
  rw [q.1]
  exact reached_g hs q o hm (by omega) hn (q.2.2.2.2.2.2.2.2.1 n hn.1) hv2 k
theorem reached_E {h : HP} {L s n a : Int} {σ : ST} {P : Int → HP → Prop} (hs : 0 ≤ s ∧ s < 36) (q : CurveC h L s σ) (o : slotOK σ s) (hm : 0 < σ 11 s 0) (ha : a = max (σ 9 s 0) (σ 11 s 0)) (hn : cur σ s ≤ n ∧ n ≤ 20000) (hv2 : σ 13 s n < 2147483648) (k : P (σ 13 s n) h) : wX1_reached L s n a h P := by
  have w := o.1.2 hm
  unfold wellC at w
  subst ha
  exact reached_g hs q o hm (by omega) hn (q.2.2.2.2.2.2.2.2.2 n hn.1) hv2 k
/-- the slots below m of o are as those of o1 were -/
def CpC (o o1 m : Int) (h h' : HP) : Prop := ∀ s, 0 ≤ s → s < m → (h' 13 o s = h 13 o1 s ∧ h' 14 o s = h 14 o1 s ∧ h' 15 o s = h 15 o1 s ∧ h' 16 o s = h 16 o1 s ∧ h' 17 o s = h 17 o1 s) ∧ ∀ i, 0 ≤ i → i < h 17 o1 s → h' 18 o (s * 32 + i) = h 18 o1 (s * 32 + i) ∧ h' 19 o (s * 32 + i) = h 19 o1 (s * 32 + i)
theorem CurveC.copy {h h' : HP} {o o1 s : Int} {σ : ST} (q : CurveC h o1 s σ) (e : (h' 13 o s = h 13 o1 s ∧ h' 14 o s = h 14 o1 s ∧ h' 15 o s = h 15 o1 s ∧ h' 16 o s = h 16 o1 s ∧ h' 17 o s = h 17 o1 s) ∧ ∀ i, 0 ≤ i → i < h 17 o1 s → h' 18 o (s * 32 + i) = h 18 o1 (s * 32 + i) ∧ h' 19 o (s * 32 + i) = h 19 o1 (s * 32 + i)) : CurveC h' o s σ := by
  obtain ⟨b1, b2, b3, b4, b5, a1, a2, a3, a4, a5⟩ := q
  obtain ⟨⟨e1, e2, e3, e4, e5⟩, e6⟩ := e
  unfold CurveC LaidC
  rw [e1, e2, e3, e4, e5]
  refine ⟨b1, b2, b3, b4, b5, a1, fun i i0 i1 => ?_, fun i j i0 i1 i2 => ?_, fun n hn => (a4 n hn).congr (fun i i0 i1 => ?_), fun n hn => (a5 n hn).congr (fun i i0 i1 => ?_)⟩
  · rw [(e6 i i0 i1).1, (e6 i i0 i1).2]; exact a2 i i0 i1
  · rw [(e6 i i0 (by omega)).2, (e6 j (by omega) i2).2]; exact a3 i j i0 i1 i2
  · show ltF σ s (h' 18 o (s * 32 + i)) (h' 19 o (s * 32 + i)) n = _
    rw [(e6 i i0 i1).1, (e6 i i0 i1).2]
  · show ltE σ s (h' 18 o (s * 32 + i)) (h' 19 o (s * 32 + i)) n = _
    rw [(e6 i i0 i1).1, (e6 i i0 i1).2]
theorem cpC_in {h0 : HP} {o o1 a2 l3 l4 : Int} {K : HP → Prop} (ho : o ≠ o1) (g4 : 0 ≤ l4 ∧ l4 < 36) (hc : 0 ≤ h0 17 o l4 ∧ h0 17 o l4 ≤ 32)
    (hK : ∀ h, FrCu o h0 h → (h 13 o = h0 13 o ∧ h 14 o = h0 14 o ∧ h 15 o = h0 15 o ∧ h 16 o = h0 16 o ∧ h 17 o = h0 17 o) → (∀ j, h 18 o j = if l4 * 32 ≤ j ∧ j < l4 * 32 + h0 17 o l4 then h0 18 o1 j else h0 18 o j) → (∀ j, h 19 o j = if l4 * 32 ≤ j ∧ j < l4 * 32 + h0 17 o l4 then h0 19 o1 j else h0 19 o j) → K h) :
    ∀ (d : Nat) (i : Int) (h : HP), l4 * 32 + h0 17 o l4 - i = d → l4 * 32 ≤ i → FrCu o h0 h → (h 13 o = h0 13 o ∧ h 14 o = h0 14 o ∧ h 15 o = h0 15 o ∧ h 16 o = h0 16 o ∧ h 17 o = h0 17 o) → (∀ j, h 18 o j = if l4 * 32 ≤ j ∧ j < i then h0 18 o1 j else h0 18 o j) → (∀ j, h 19 o j = if l4 * 32 ≤ j ∧ j < i then h0 19 o1 j else h0 19 o j) →
      wX1_copyFrom_94 o o1 a2 l3 l4 (l4 * 32) K (d + 1) i h := by
  have c18 : cuK 18 := by unfold cuK; omega
  have c19 : cuK 19 := by unfold cuK; omega
  intro d
  induction d with
  | zero =>
    intro i h hd hi f1 f2 f3 f4
    rw [wX1_copyFrom_94, f2.2.2.2.2]
    have : i = l4 * 32 + h0 17 o l4 := by omega
    subst this
    exact ⟨g4, by omega, by omega, fun _ => hK h f1 f2 f3 f4, fun c => absurd (Int.le_refl _) c⟩
  | succ d ih =>
    intro i h hd hi f1 f2 f3 f4
    have s1 : h 18 o1 = h0 18 o1 := f1 18 o1 (fun z => ho z.1.symm)
    have s2 : h 19 o1 = h0 19 o1 := f1 19 o1 (fun z => ho z.1.symm)
    have hf := ih (i + 1) (up (up h 18 o i (h 18 o1 i)) 19 o i ((up h 18 o i (h 18 o1 i)) 19 o1 i)) (by omega) (by omega) ((f1.tr (FrCu.up c18)).tr (FrCu.up c19)) ⟨by rw [up_k (by decide), up_k (by decide)]; exact f2.1, by rw [up_k (by decide), up_k (by decide)]; exact f2.2.1, by rw [up_k (by decide), up_k (by decide)]; exact f2.2.2.1, by rw [up_k (by decide), up_k (by decide)]; exact f2.2.2.2.1, by rw [up_k (by decide), up_k (by decide)]; exact f2.2.2.2.2⟩
      (fun j => by
        rw [up_k (by decide), up_ji, s1]
        by_cases z : j = i
        · rw [if_pos z, if_pos (by omega), z]
        · rw [if_neg z, f3 j]
          by_cases z2 : l4 * 32 ≤ j ∧ j < i
          · rw [if_pos z2, if_pos (by omega)]
          · rw [if_neg z2, if_neg (by omega)])
      (fun j => by
        rw [up_ji, up_k (by decide), s2]
        by_cases z : j = i
        · rw [if_pos z, if_pos (by omega), z]
        · rw [if_neg z, f4 j]
          by_cases z2 : l4 * 32 ≤ j ∧ j < i
          · rw [if_pos z2, if_pos (by omega)]
          · rw [if_neg z2, if_neg (by omega)])
    rw [wX1_copyFrom_94, f2.2.2.2.2]
    refine ⟨g4, by omega, by omega, fun c => absurd c (by omega), fun _ => ⟨by omega, by omega, fun h19 e19 => ⟨by omega, by omega, fun h22 e22 => ?_⟩⟩⟩
    subst e19; subst e22
    exact hf
theorem cpC_out {h0 : HP} {o o1 a2 l3 : Int} {K : HP → Prop} (ho : o ≠ o1) (g3 : 0 ≤ l3 ∧ l3 ≤ 36) (hc : ∀ s, 0 ≤ s → s < l3 → 0 ≤ h0 17 o s ∧ h0 17 o s ≤ 32)
    (hK : ∀ h, FrCu o h0 h → (h 13 o = h0 13 o ∧ h 14 o = h0 14 o ∧ h 15 o = h0 15 o ∧ h 16 o = h0 16 o ∧ h 17 o = h0 17 o) → (∀ s i, 0 ≤ s → s < l3 → 0 ≤ i → i < h0 17 o s → h 18 o (s * 32 + i) = h0 18 o1 (s * 32 + i) ∧ h 19 o (s * 32 + i) = h0 19 o1 (s * 32 + i)) → K h) :
    ∀ (d : Nat) (l : Int) (h : HP), l3 - l = d → 0 ≤ l → FrCu o h0 h → (h 13 o = h0 13 o ∧ h 14 o = h0 14 o ∧ h 15 o = h0 15 o ∧ h 16 o = h0 16 o ∧ h 17 o = h0 17 o) → (∀ s i, 0 ≤ s → s < l → 0 ≤ i → i < h0 17 o s → h 18 o (s * 32 + i) = h0 18 o1 (s * 32 + i) ∧ h 19 o (s * 32 + i) = h0 19 o1 (s * 32 + i)) →
      wX1_copyFrom_77 o o1 a2 l3 K (d + 1) l h := by
  intro d
  induction d with
  | zero =>
    intro l h hd hl f1 f2 f3
    rw [wX1_copyFrom_77]
    have : l = l3 := by omega
    subst this
    exact ⟨by omega, by omega, fun _ => hK h f1 f2 f3, fun c => absurd (Int.le_refl _) c⟩
  | succ d ih =>
    intro l h hd hl f1 f2 f3
    have c17 : h 17 o l = h0 17 o l := by rw [f2.2.2.2.2]
    have hcl := hc l hl (by omega)
    have s1 : h 18 o1 = h0 18 o1 := f1 18 o1 (fun z => ho z.1.symm)
    have s2 : h 19 o1 = h0 19 o1 := f1 19 o1 (fun z => ho z.1.symm)
    rw [wX1_copyFrom_77]
    refine ⟨by omega, by omega, fun c => absurd c (by omega), fun _ => ⟨_, cpC_in ho (by omega) (by rw [c17]; exact hcl) (fun h' e1 e2 e3 e4 => ?_) _ (l * 32) h (Int.toNat_of_nonneg (a := l * 32 + h 17 o l - l * 32) (by omega)).symm (Int.le_refl _) (FrCu.rf _ _) ⟨rfl, rfl, rfl, rfl, rfl⟩ (fun j => by rw [if_neg (by omega)]) (fun j => by rw [if_neg (by omega)])⟩⟩
    refine ih (l + 1) h' (by omega) (by omega) (f1.tr e1) ⟨e2.1.trans f2.1, e2.2.1.trans f2.2.1, e2.2.2.1.trans f2.2.2.1, e2.2.2.2.1.trans f2.2.2.2.1, e2.2.2.2.2.trans f2.2.2.2.2⟩ (fun s i s0 s1' i0 i1 => ?_)
    have hcs := hc s s0 (by omega)
    rw [e3, e4, c17, s1, s2]
    by_cases z : s = l
    · subst z
      rw [if_pos (by omega), if_pos (by omega)]
      exact ⟨rfl, rfl⟩
    · rw [if_neg (by omega), if_neg (by omega)]
      exact f3 s i s0 (by omega) i0 i1
theorem copyC_s {h : HP} {o o1 n : Int} {P : HP → Prop} (ho : o ≠ o1) (hn : 0 ≤ n ∧ n ≤ 12) (hc : ∀ s, 0 ≤ s → s < n * 3 → 0 ≤ h 17 o1 s ∧ h 17 o1 s ≤ 32) (k : ∀ h', FrCu o h h' → CpC o o1 (n * 3) h h' → P h') : wX1_copyFrom o o1 n h P := by
  have c13 : cuK 13 := by unfold cuK; omega
  have c14 : cuK 14 := by unfold cuK; omega
  have c15 : cuK 15 := by unfold cuK; omega
  have c16 : cuK 16 := by unfold cuK; omega
  have c17 : cuK 17 := by unfold cuK; omega
  have fru : ∀ (g : HP) (k : Nat) (f : Int → Int), cuK k → FrCu o g (upr g k o f) := by
    intro g k f hk k' i q
    by_cases e : i = o
    · exact congrFun (upr_k (fun z => q ⟨e, by rw [z]; exact hk⟩)) i
    · exact upr_i e
  unfold wX1_copyFrom
  refine ⟨by omega, fun h1 e1 => ⟨by omega, fun h2 e2 => ⟨by omega, fun h3 e3 => ⟨by omega, fun h4 e4 => ⟨by omega, fun h5 e5 => ?_⟩⟩⟩⟩⟩
  have F1 : FrCu o h h1 := by rw [e1]; exact fru _ _ _ c13
  have F2 : FrCu o h1 h2 := by rw [e2]; exact fru _ _ _ c14
  have F3 : FrCu o h2 h3 := by rw [e3]; exact fru _ _ _ c15
  have F4 : FrCu o h3 h4 := by rw [e4]; exact fru _ _ _ c16
  have F5 : FrCu o h4 h5 := by rw [e5]; exact fru _ _ _ c17
  have F := (((F1.tr F2).tr F3).tr F4).tr F5
  have ne : ∀ k, ¬ (o1 = o ∧ cuK k) := fun k z => ho z.1.symm
  have g13 : ∀ s, 0 ≤ s → s < n * 3 → h5 13 o s = h 13 o1 s := by
    intro s s0 s1
    rw [e5, upr_k (by decide), e4, upr_k (by decide), e3, upr_k (by decide), e2, upr_k (by decide), e1, upr_eq]
    show (if _ then _ else _) = _
    rw [if_pos (by omega)]; congr 1; omega
  have g14 : ∀ s, 0 ≤ s → s < n * 3 → h5 14 o s = h 14 o1 s := by
    intro s s0 s1
    rw [e5, upr_k (by decide), e4, upr_k (by decide), e3, upr_k (by decide), e2, upr_eq]
    show (if _ then _ else _) = _
    rw [if_pos (by omega), F1 14 o1 (ne _)]; congr 1; omega
  have g15 : ∀ s, 0 ≤ s → s < n * 3 → h5 15 o s = h 15 o1 s := by
    intro s s0 s1
    rw [e5, upr_k (by decide), e4, upr_k (by decide), e3, upr_eq]
    show (if _ then _ else _) = _
    rw [if_pos (by omega), (F1.tr F2) 15 o1 (ne _)]; congr 1; omega
  have g16 : ∀ s, 0 ≤ s → s < n * 3 → h5 16 o s = h 16 o1 s := by
    intro s s0 s1
    rw [e5, upr_k (by decide), e4, upr_eq]
    show (if _ then _ else _) = _
    rw [if_pos (by omega), ((F1.tr F2).tr F3) 16 o1 (ne _)]; congr 1; omega
  have g17 : ∀ s, 0 ≤ s → s < n * 3 → h5 17 o s = h 17 o1 s := by
    intro s s0 s1
    rw [e5, upr_eq]
    show (if _ then _ else _) = _
    rw [if_pos (by omega), (((F1.tr F2).tr F3).tr F4) 17 o1 (ne _)]; congr 1; omega
  refine ⟨_, cpC_out ho (by omega) (fun s s0 s1 => by rw [g17 s s0 s1]; exact hc s s0 s1) (fun h' a1 a2 a3 => ?_) _ 0 h5 (Int.toNat_of_nonneg (a := n * 3 - 0) (by omega)).symm (Int.le_refl _) (FrCu.rf _ _) ⟨rfl, rfl, rfl, rfl, rfl⟩ (fun s i s0 s1 => by omega)⟩
  refine k h' (F.tr a1) (fun s s0 s1 => ⟨⟨?_, ?_, ?_, ?_, ?_⟩, fun i i0 i1 => ?_⟩)
  · rw [a2.1]; exact g13 s s0 s1
  · rw [a2.2.1]; exact g14 s s0 s1
  · rw [a2.2.2.1]; exact g15 s s0 s1
  · rw [a2.2.2.2.1]; exact g16 s s0 s1
  · rw [a2.2.2.2.2]; exact g17 s s0 s1
  · have := a3 s i s0 s1 i0 (by rw [g17 s s0 s1]; exact i1)
    rw [F 18 o1 (ne _), F 19 o1 (ne _)] at this
    exact this
theorem clearC_s {h : HP} {L : Int} {P : HP → Prop} (k : ∀ h', FrCu L h h' → (∀ s, 0 ≤ s → s < 36 → h' 15 L s = 0 ∧ h' 17 L s = 0) → P h') : wX1_clear L h P := by
  unfold wX1_clear
  have key : ∀ (d : Nat) (i : Int) (h' : HP), 36 - i = d → 0 ≤ i → FrCu L h h' → (∀ s, 0 ≤ s → s < i → h' 15 L s = 0 ∧ h' 17 L s = 0) → wX1_clear_2 L (fun h5 => P h5) (d + 1) i h' := by
    intro d
    induction d with
    | zero =>
      intro i h' hd hi f q
      rw [wX1_clear_2]
      exact ⟨by omega, fun _ => k h' f (fun s s0 s1 => q s s0 (by omega)), fun c => absurd (by omega) c⟩
    | succ d ih =>
      intro i h' hd hi f q
      rw [wX1_clear_2]
      refine ⟨by omega, fun c => absurd c (by omega), fun _ => drop_s (by omega) (fun h2 a1 a2 _ a4 a5 => ?_)⟩
      refine ih (i + 1) h2 (by omega) (by omega) (f.tr a1) (fun s s0 s1 => ?_)
      by_cases z : s = i
      · subst z; exact ⟨a4, a5⟩
      · obtain ⟨⟨-, -, b3, -, b5⟩, -⟩ := a2 s z
        rw [b3, b5]
        exact q s s0 (by omega)
  exact ⟨_, key _ 0 h (Int.toNat_of_nonneg (a := 36 - 0) (by omega)).symm (Int.le_refl _) (FrCu.rf _ _) (fun s s0 s1 => by omega)⟩
