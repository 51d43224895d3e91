theorem mul_rng {a b A B : Int} (ha : 0 ≤ a) (hA : a ≤ A) (hb : -B ≤ b) (hB : b ≤ B) (hB0 : 0 ≤ B) : -(A * B) ≤ a * b ∧ a * b ≤ A * B := by
  have h1 : a * b ≤ a * B := Int.mul_le_mul_of_nonneg_left hB ha
  have h2 : a * B ≤ A * B := Int.mul_le_mul_of_nonneg_right hA hB0
  have h3 : a * (-B) ≤ a * b := Int.mul_le_mul_of_nonneg_left hb ha
  rw [Int.mul_neg] at h3
  omega
def cuK (k : Nat) : Prop := 13 ≤ k ∧ k ≤ 19
def FrCu (L : Int) (h h' : HP) : Prop := ∀ k i, ¬ (i = L ∧ cuK k) → h' k i = h k i
theorem FrCu.rf (L : Int) (h : HP) : FrCu L h h := fun _ _ _ => rfl
theorem FrCu.tr {L : Int} {h h' h'' : HP} (a : FrCu L h h') (b : FrCu L h' h'') : FrCu L h h'' := fun k i q => by rw [b k i q, a k i q]
theorem FrCu.up {L : Int} {h : HP} {k : Nat} {j v : Int} (hk : cuK k) : FrCu L h (up h k L j v) := by
  intro k' i q
  by_cases e : i = L
  · exact congrFun (up_k (fun z => q ⟨e, by rw [z]; exact hk⟩)) i
  · exact up_i e
theorem FrCu.frL {L : Int} {h h' : HP} (f : FrCu L h h') : FrL L h h' := fun k i q => f k i (fun z => q ⟨z.1, by have := z.2; unfold cuK at this; unfold lnK; omega⟩)
/-- the cells of all slots but one are as they were -/
def Oth (L s : Int) (h h' : HP) : Prop := ∀ t, t ≠ s → (h' 13 L t = h 13 L t ∧ h' 14 L t = h 14 L t ∧ h' 15 L t = h 15 L t ∧ h' 16 L t = h 16 L t ∧ h' 17 L t = h 17 L t) ∧ ∀ i, 0 ≤ i → i < 32 → h' 18 L (t * 32 + i) = h 18 L (t * 32 + i) ∧ h' 19 L (t * 32 + i) = h 19 L (t * 32 + i)
theorem Oth.rf (L s : Int) (h : HP) : Oth L s h h := fun _ _ => ⟨⟨rfl, rfl, rfl, rfl, rfl⟩, fun _ _ _ => ⟨rfl, rfl⟩⟩
theorem Oth.tr {L s : Int} {h h' h'' : HP} (a : Oth L s h h') (b : Oth L s h' h'') : Oth L s h h'' := by
  intro t ht
  obtain ⟨⟨a1, a2, a3, a4, a5⟩, a6⟩ := a t ht
  obtain ⟨⟨b1, b2, b3, b4, b5⟩, b6⟩ := b t ht
  exact ⟨⟨b1.trans a1, b2.trans a2, b3.trans a3, b4.trans a4, b5.trans a5⟩, fun i h0 h1 => ⟨(b6 i h0 h1).1.trans (a6 i h0 h1).1, (b6 i h0 h1).2.trans (a6 i h0 h1).2⟩⟩
theorem Oth.upS {L s v : Int} {h : HP} {k : Nat} (hk : 13 ≤ k ∧ k ≤ 17) : Oth L s h (up h k L s v) := by
  intro t ht
  refine ⟨⟨?_, ?_, ?_, ?_, ?_⟩, fun i h0 h1 => ⟨?_, ?_⟩⟩
  all_goals exact up_kj (fun z => by omega)
theorem Oth.upX {L s j v : Int} {h : HP} {k : Nat} (hk : k = 18 ∨ k = 19) (h0 : s * 32 ≤ j) (h1 : j < s * 32 + 32) : Oth L s h (up h k L j v) := by
  intro t ht
  refine ⟨⟨?_, ?_, ?_, ?_, ?_⟩, fun i i0 i1 => ⟨?_, ?_⟩⟩
  all_goals exact up_kj (fun z => by omega)
theorem LaidC.move {h h' : HP} {L s : Int} {σ τ : ST} (q : LaidC h L s σ) (e17 : h' 17 L s = h 17 L s) (e18 : ∀ i, 0 ≤ i → i < 32 → h' 18 L (s * 32 + i) = h 18 L (s * 32 + i) ∧ h' 19 L (s * 32 + i) = h 19 L (s * 32 + i))
    (f9 : τ 9 s 0 = σ 9 s 0) (f10 : τ 10 s 0 = σ 10 s 0) (f11 : τ 11 s 0 = σ 11 s 0) (f12 : τ 12 s = σ 12 s) (f13 : τ 13 s = σ 13 s) (fc : cur σ s ≤ cur τ s) : LaidC h' L s τ := by
  obtain ⟨a1, a2, a3, a4, a5⟩ := q
  unfold LaidC
  rw [e17, f12, f13]
  refine ⟨a1, fun i i0 i1 => ?_, fun i j i0 i1 i2 => ?_, fun n hn => ?_, fun n hn => ?_⟩
  · have := a2 i i0 i1
    rw [(e18 i i0 (by omega)).1, (e18 i i0 (by omega)).2]
    exact ⟨this.1, this.2.1, by omega⟩
  · rw [(e18 i i0 (by omega)).2, (e18 j (by omega) (by omega)).2]
    exact a3 i j i0 i1 i2
  · refine (a4 n (by omega)).congr (fun i i0 i1 => ?_)
    unfold ltF
    rw [(e18 i i0 (by omega)).1, (e18 i i0 (by omega)).2, f9, f10, f11]
  · refine (a5 n (by omega)).congr (fun i i0 i1 => ?_)
    unfold ltE
    rw [(e18 i i0 (by omega)).1, (e18 i i0 (by omega)).2, f9, f10, f11]
theorem CurveC.move {h h' : HP} {L s : Int} {σ τ : ST} (q : CurveC h L s σ) (e : (h' 13 L s = h 13 L s ∧ h' 14 L s = h 14 L s ∧ h' 15 L s = h 15 L s ∧ h' 16 L s = h 16 L s ∧ h' 17 L s = h 17 L s) ∧ ∀ i, 0 ≤ i → i < 32 → h' 18 L (s * 32 + i) = h 18 L (s * 32 + i) ∧ h' 19 L (s * 32 + i) = h 19 L (s * 32 + i))
    (f9 : τ 9 s 0 = σ 9 s 0) (f10 : τ 10 s 0 = σ 10 s 0) (f11 : τ 11 s 0 = σ 11 s 0) (f12 : τ 12 s = σ 12 s) (f13 : τ 13 s = σ 13 s) (fc : cur σ s ≤ cur τ s) : CurveC h' L s τ := by
  obtain ⟨b1, b2, b3, b4, b5, b6⟩ := q
  obtain ⟨⟨e1, e2, e3, e4, e5⟩, e6⟩ := e
  unfold CurveC
  rw [e1, e2, e3, e4, e5, f9, f10, f11]
  exact ⟨b1, b2, b3, b4, b5, b6.move e5 e6 f9 f10 f11 f12 f13 fc⟩
theorem has_s {h : HP} {L s : Int} {P : Int → HP → Prop} (hs : 0 ≤ s ∧ s < 36) (hb : inR (h 15 L s)) (k : ∀ x, (x = 0 ∨ x = 1) → (x = 1 ↔ 0 < h 15 L s) → P x h) : wX1_has L s h P := by
  unfold wX1_has
  refine ⟨hs, hb, fun t ht => ?_⟩
  by_cases c : h 15 L s ≤ 0
  · have := ht.1 c; subst this
    exact ⟨Or.inl rfl, k 0 (Or.inl rfl) ⟨fun q => by omega, fun q => by omega⟩⟩
  · have := ht.2 c; subst this
    exact ⟨Or.inr rfl, k 1 (Or.inr rfl) ⟨fun q => by omega, fun q => rfl⟩⟩
theorem has_c {h : HP} {L s : Int} {σ : ST} {P : Int → HP → Prop} (hs : 0 ≤ s ∧ s < 36) (q : CurveC h L s σ) (o : slotOK σ s) (k : ∀ x, (x = 0 ∨ x = 1) → (x = 1 ↔ 0 < σ 11 s 0) → P x h) : wX1_has L s h P := by
  have e := q.2.2.1
  have o1 := o.1
  unfold wellC at o1
  refine has_s hs (by unfold inR; omega) (fun x hx hq => k x hx (by rw [← e]; exact hq))
theorem wellC_mul {a b c : Int} (w : wellC a b c) : 0 ≤ a * b ∧ a * b ≤ 3000 := by
  unfold wellC at w
  have := mul_rng (a := a) (b := b) (A := 100) (B := 30) (by omega) (by omega) (by omega) (by omega) (by omega)
  have := Int.mul_nonneg (a := a) (b := b) (by omega) (by omega)
  omega
theorem tbend_le {a b c : Int} (w : wellC a b c) : 0 ≤ tbend a b c ∧ tbend a b c ≤ 30 := by
  have := wellC_mul w
  unfold tbend
  split <;> omega
theorem tbend_past {m1 d m2 x y n : Int} (h : tbend m1 d m2 ≤ x - y) (hn : x ≤ n) : d = 0 ∨ m1 = m2 ∨ (y < n ∧ m1 * d ≤ 100 * (n - y)) := by
  unfold tbend at h
  split at h
  · rename_i q; rcases q with q | q
    · exact Or.inl q
    · exact Or.inr (Or.inl q)
  · exact Or.inr (Or.inr (by omega))
theorem put_s {h : HP} {L s a b c : Int} {σ : ST} {P : HP → Prop} (hs : 0 ≤ s ∧ s < 36) (w : wellC a b c) (k : ∀ h', FrCu L h h' → Oth L s h h' → CurveC h' L s (putA σ s a b c) → P h') : wX1_put L s a b c h P := by
  have hm := wellC_mul w
  unfold wX1_put
  refine ⟨hs, fun h1 e1 => ⟨hs, fun h2 e2 => ⟨hs, fun h3 e3 => ⟨⟨by unfold wellC at w; omega, fun _ => by unfold wellC at w; omega⟩, fun t10 ht10 => ⟨⟨?_, fun _ => ⟨by omega, by omega⟩⟩, fun t15 ht15 => ⟨hs, fun h4 e4 => ⟨hs, fun h5 e5 => ?_⟩⟩⟩⟩⟩⟩⟩
  · have : t10 = 0 ∨ t10 = 1 := by
      by_cases c1 : b = 0
      · exact Or.inr (ht10.1 c1)
      · by_cases c2 : a = c
        · exact Or.inr ((ht10.2 c1).2 c2)
        · exact Or.inl ((ht10.2 c1).1 c2)
    omega
  · have et : t15 = tbend a b c := by
      unfold tbend
      by_cases c1 : b = 0
      · rw [if_pos (Or.inl c1)]; have := ht10.1 c1; exact ht15.2 (by omega)
      · by_cases c2 : a = c
        · rw [if_pos (Or.inr c2)]; have := (ht10.2 c1).2 c2; exact ht15.2 (by omega)
        · rw [if_neg (by omega)]; have := (ht10.2 c1).1 c2; exact ht15.1 (by omega)
    subst et
    subst e1; subst e2; subst e3; subst e4; subst e5
    have c13 : cuK 13 := by unfold cuK; omega
    have c14 : cuK 14 := by unfold cuK; omega
    have c15 : cuK 15 := by unfold cuK; omega
    have c16 : cuK 16 := by unfold cuK; omega
    have c17 : cuK 17 := by unfold cuK; omega
    refine k _ ((((FrCu.up c13).tr (FrCu.up c14)).tr (FrCu.up c15)).tr ((FrCu.up c16).tr (FrCu.up c17))) ((((Oth.upS (by omega)).tr (Oth.upS (by omega))).tr (Oth.upS (by omega))).tr ((Oth.upS (by omega)).tr (Oth.upS (by omega)))) ?_
    have g9 : putA σ s a b c 9 s 0 = a := by unfold putA; rw [upr_k (by decide), upr_k (by decide), up_k (by decide), up_k (by decide), up_eq]
    have g10 : putA σ s a b c 10 s 0 = b := by unfold putA; rw [upr_k (by decide), upr_k (by decide), up_k (by decide), up_eq]
    have g11 : putA σ s a b c 11 s 0 = c := by unfold putA; rw [upr_k (by decide), upr_k (by decide), up_eq]
    have g12 : putA σ s a b c 12 s = fun _ => 0 := by unfold putA; rw [upr_k (by decide), upr_eq]
    have g13 : putA σ s a b c 13 s = fun _ => 0 := by unfold putA; rw [upr_eq]
    have j17 : (up (up (up (up (up h 13 L s a) 14 L s b) 15 L s c) 16 L s (tbend a b c)) 17 L s 0) 17 L s = 0 := up_eq
    unfold CurveC
    rw [g9, g10, g11, j17]
    refine ⟨?_, ?_, ?_, fun _ => ?_, fun _ => rfl, ?_⟩
    · rw [up_k (by decide), up_k (by decide), up_k (by decide), up_k (by decide), up_eq]
    · rw [up_k (by decide), up_k (by decide), up_k (by decide), up_eq]
    · rw [up_k (by decide), up_k (by decide), up_eq]
    · rw [up_k (by decide), up_eq]
    · unfold LaidC
      rw [j17, g12, g13]
      exact ⟨by omega, fun i i0 i1 => by omega, fun i j i0 i1 i2 => by omega, fun n _ => IsMax.zero, fun n _ => IsMax.zero⟩
theorem drop_s {h : HP} {L s : Int} {P : HP → Prop} (hs : 0 ≤ s ∧ s < 36) (k : ∀ h', FrCu L h h' → Oth L s h h' → (∀ σ, CurveC h L s σ → CurveC h' L s (dropA σ s)) → h' 15 L s = 0 → h' 17 L s = 0 → P h') : wX1_drop L s h P := by
  unfold wX1_drop
  refine ⟨hs, fun h1 e1 => ⟨hs, fun h2 e2 => ?_⟩⟩
  subst e1; subst e2
  have c15 : cuK 15 := by unfold cuK; omega
  have c17 : cuK 17 := by unfold cuK; omega
  refine k _ ((FrCu.up c15).tr (FrCu.up c17)) ((Oth.upS (by omega)).tr (Oth.upS (by omega))) (fun σ q => ?_) (by rw [up_k (by decide), up_eq]) up_eq
  obtain ⟨b1, b2, b3, b4, b5, b6⟩ := q
  have g9 : dropA σ s 9 s 0 = σ 9 s 0 := by unfold dropA; rw [upr_k (by decide), upr_k (by decide), up_k (by decide)]
  have g10 : dropA σ s 10 s 0 = σ 10 s 0 := by unfold dropA; rw [upr_k (by decide), upr_k (by decide), up_k (by decide)]
  have g11 : dropA σ s 11 s 0 = 0 := by unfold dropA; rw [upr_k (by decide), upr_k (by decide), up_eq]
  have g12 : dropA σ s 12 s = fun _ => 0 := by unfold dropA; rw [upr_k (by decide), upr_eq]
  have g13 : dropA σ s 13 s = fun _ => 0 := by unfold dropA; rw [upr_eq]
  have j17 : (up (up h 15 L s 0) 17 L s 0) 17 L s = 0 := up_eq
  unfold CurveC
  rw [g9, g10, g11, j17]
  refine ⟨by rw [up_k (by decide), up_k (by decide)]; exact b1, by rw [up_k (by decide), up_k (by decide)]; exact b2, by rw [up_k (by decide), up_eq], fun q => by omega, fun _ => rfl, ?_⟩
  unfold LaidC
  rw [j17, g12, g13]
  exact ⟨by omega, fun i i0 i1 => by omega, fun i j i0 i1 i2 => by omega, fun n _ => IsMax.zero, fun n _ => IsMax.zero⟩
