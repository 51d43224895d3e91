abbrev TT : Type := Int × (Int → Int)
def sgA (v : Int) (t : TT) : TT := (t.1 + 1, fun i => if i = t.1 then v else t.2 i)
def strA (s : Int) (t : TT) : Nat → TT
  | 0 => t
  | m + 1 => sgA (strC s m) (strA s t m)
def numA (v : Int) (t : TT) : TT := sgA (48 + v % 10) (if v < 10 then (if v < 100 then sgA 32 t else sgA (48 + v / 100 % 10) (sgA 32 t)) else sgA (48 + v / 10 % 10) (if v < 100 then sgA 32 t else sgA (48 + v / 100 % 10) (sgA 32 t)))
theorem strA_len {s : Int} {t : TT} : ∀ m : Nat, (strA s t m).1 = t.1 + m := by
  intro m
  induction m with
  | zero => show t.1 = t.1 + 0; omega
  | succ m ih => show (strA s t m).1 + 1 = _; rw [ih]; omega
theorem numA_len {v : Int} {t : TT} : t.1 + 2 ≤ (numA v t).1 ∧ (numA v t).1 ≤ t.1 + 4 := by
  unfold numA
  split <;> split <;> (show t.1 + 2 ≤ _ + 1 ∧ _ + 1 ≤ t.1 + 4) <;> simp only [sgA] <;> omega
def TlC (h0 h : HP) (t : TT) : Prop := h 10 0 1 = t.1 ∧ (∀ i, 0 ≤ i → i < t.1 → h 44 0 i = t.2 i) ∧ ∀ k, k ≠ 10 → k ≠ 44 → h k = h0 k
theorem putSign_c {h0 h : HP} {v : Int} {t : TT} {P : HP → Prop} (q : TlC h0 h t) (ht : 0 ≤ t.1 ∧ t.1 < 96) (k : ∀ h', TlC h0 h' (sgA v t) → P h') : wX10_putSign 0 v h P := by
  obtain ⟨q1, q2, q3⟩ := q
  unfold wX10_putSign
  rw [q1]
  refine ⟨by omega, fun z => by omega, fun _ => ⟨by omega, fun h3 e3 h5 e5 => k h5 ⟨?_, fun i i0 i1 => ?_, fun k k1 k2 => by rw [e5, up_k k1, e3, up_k k2]; exact q3 k k1 k2⟩⟩⟩
  · rw [e5, up_eq, e3, up_k (by decide), q1]; rfl
  · have i1' : i < t.1 + 1 := i1
    rw [e5, up_k (by decide), e3, up_ji]
    show _ = if i = t.1 then v else t.2 i
    by_cases z : i = t.1
    · rw [if_pos z, if_pos z]
    · rw [if_neg z, if_neg z]; exact q2 i i0 (by omega)
theorem putText_c {h0 h : HP} {s : Int} {n : Nat} {t : TT} {P : HP → Prop} (q : TlC h0 h t) (hs : strL s = n) (hn : n ≤ 6) (ht : 0 ≤ t.1 ∧ t.1 + n ≤ 96) (k : ∀ h', TlC h0 h' (strA s t n) → P h') : wX10_putText 0 s h P := by
  unfold wX10_putText
  have loop : ∀ (d m : Nat) (hh : HP), n - m = d → m ≤ n → TlC h0 hh (strA s t m) → wX10_putText_2 0 s (fun h7 => P h7) (d + 1) m hh := by
    intro d
    induction d with
    | zero =>
      intro m hh hd hm tq
      have e : m = n := by omega
      subst e
      rw [wX10_putText_2, hs]
      exact ⟨by omega, by omega, fun _ => k hh tq, fun z => absurd (Int.le_refl _) z⟩
    | succ d ih =>
      intro m hh hd hm tq
      have l := strA_len (s := s) (t := t) m
      rw [wX10_putText_2, hs]
      refine ⟨by omega, by omega, fun z => absurd z (by omega), fun _ => ⟨by omega, putSign_c tq (by omega) (fun h5 q5 => ?_)⟩⟩
      exact ih (m + 1) h5 (by omega) (by omega) q5
  exact ⟨_, loop n 0 h rfl (by omega) q⟩
theorem putNum_c {h0 h : HP} {v : Int} {t : TT} {P : HP → Prop} (q : TlC h0 h t) (hv : 0 ≤ v ∧ v ≤ 999) (ht : 0 ≤ t.1 ∧ t.1 + 4 ≤ 96) (k : ∀ h', TlC h0 h' (numA v t) → P h') : wX10_putNumber 0 v h P := by
  unfold wX10_putNumber
  have tail : ∀ (hh : HP) (t' : TT), TlC h0 hh t' → (0 ≤ t'.1 ∧ t'.1 + 2 ≤ 96) → numA v t = sgA (48 + v % 10) (if v < 10 then t' else sgA (48 + v / 10 % 10) t') → wX10_putNumber_26 0 v P hh := by
    intro hh t' tq l e
    unfold wX10_putNumber_26
    refine ⟨by omega, fun z => ⟨by omega, putSign_c tq (by omega) (fun h7 q7 => ?_)⟩, fun z => ⟨by omega, by omega, putSign_c tq (by omega) (fun h7 q7 => ⟨by omega, putSign_c q7 ?_ (fun h8 q8 => ?_)⟩)⟩⟩
    · rw [if_pos z] at e; rw [← e] at q7; exact k h7 q7
    · show 0 ≤ t'.1 + 1 ∧ t'.1 + 1 < 96; omega
    · rw [if_neg z] at e; rw [← e] at q8; exact k h8 q8
  refine putSign_c q (by omega) (fun h1 q1 => ⟨by omega, fun z => tail h1 _ q1 ?_ ?_, fun z => ⟨by omega, by omega, putSign_c q1 ?_ (fun h2 q2 => tail h2 _ q2 ?_ ?_)⟩⟩)
  · show 0 ≤ t.1 + 1 ∧ t.1 + 1 + 2 ≤ 96; omega
  · unfold numA; rw [if_pos z]
  · show 0 ≤ t.1 + 1 ∧ t.1 + 1 < 96; omega
  · show 0 ≤ t.1 + 1 + 1 ∧ t.1 + 1 + 1 + 2 ≤ 96; omega
  · unfold numA; rw [if_neg z]
noncomputable def curT (σ : ST) (c k : Int) (t : TT) : TT := if 0 < σ 11 (3 * c + k) 0 then numA (σ 11 (3 * c + k) 0) (numA (σ 10 (3 * c + k) 0) (numA (σ 9 (3 * c + k) 0) (strA (8 + k) t 6))) else t
def hdT (π : PL) (c : Int) : TT := if π 1 c = 12 then strA 3 (0, fun _ => 0) 5 else numA (π 1 c) (strA 6 (strA 3 (0, fun _ => 0) 5) 3)
noncomputable def cursT (σ : ST) (c : Int) (t : TT) : Nat → TT
  | 0 => t
  | k + 1 => curT σ c k (cursT σ c t k)
noncomputable def toldT (π : PL) (σ : ST) (c : Int) : TT := strA 7 (cursT σ c (hdT π c) 3) 1
theorem curT_len {σ : ST} {c k : Int} {t : TT} : t.1 ≤ (curT σ c k t).1 ∧ (curT σ c k t).1 ≤ t.1 + 18 := by
  unfold curT
  split
  · have a := numA_len (v := σ 11 (3 * c + k) 0) (t := numA (σ 10 (3 * c + k) 0) (numA (σ 9 (3 * c + k) 0) (strA (8 + k) t 6)))
    have b := numA_len (v := σ 10 (3 * c + k) 0) (t := numA (σ 9 (3 * c + k) 0) (strA (8 + k) t 6))
    have d := numA_len (v := σ 9 (3 * c + k) 0) (t := strA (8 + k) t 6)
    have e := strA_len (s := 8 + k) (t := t) 6
    omega
  · omega
theorem hdT_len {π : PL} {c : Int} : 5 ≤ (hdT π c).1 ∧ (hdT π c).1 ≤ 12 := by
  unfold hdT
  have e := strA_len (s := 3) (t := ((0 : Int), fun _ => (0 : Int))) 5
  have e' : (strA 3 ((0 : Int), fun _ => (0 : Int)) 5).1 = 5 := e
  split
  · omega
  · have a := numA_len (v := π 1 c) (t := strA 6 (strA 3 ((0 : Int), fun _ => (0 : Int)) 5) 3)
    have b := strA_len (s := 6) (t := strA 3 ((0 : Int), fun _ => (0 : Int)) 5) 3
    omega
theorem cursT_len {σ : ST} {c : Int} {t : TT} : ∀ k : Nat, t.1 ≤ (cursT σ c t k).1 ∧ (cursT σ c t k).1 ≤ t.1 + 18 * k := by
  intro k
  induction k with
  | zero => show t.1 ≤ t.1 ∧ t.1 ≤ t.1 + 18 * 0; omega
  | succ k ih =>
    have a := curT_len (σ := σ) (c := c) (k := k) (t := cursT σ c t k)
    show t.1 ≤ (curT σ c k (cursT σ c t k)).1 ∧ (curT σ c k (cursT σ c t k)).1 ≤ _
    omega
theorem toldT_len {π : PL} {σ : ST} {c : Int} : 6 ≤ (toldT π σ c).1 ∧ (toldT π σ c).1 ≤ 67 := by
  have a := hdT_len (π := π) (c := c)
  have b := cursT_len (σ := σ) (c := c) (t := hdT π c) 3
  have d := strA_len (s := 7) (t := cursT σ c (hdT π c) 3) 1
  unfold toldT
  omega
theorem LX.tl {h h' : HP} {π : PL} {K : Int} {σ : ST} {t : TT} (x : LX h 10 π K σ) (q : TlC h h' t) : LX h' 10 π K σ :=
  ⟨x.1, x.2.1.congr (fun k hk => by rw [q.2.2 k (by omega) (by omega)]), x.2.2.1, x.2.2.2.congr (fun k hk => by rw [q.2.2 k (by unfold lnK at hk; omega) (by unfold lnK at hk; omega)])⟩
theorem tell_c {h : HP} {π : PL} {K c : Int} {σ : ST} {P : HP → Prop} (x : LX h 10 π K σ) (c0 : 0 ≤ c) (c1 : c < π 0 0) (k : ∀ h', TlC h h' (toldT π σ c) → P h') : wX10_tell 0 c 1 10 h P := by
  have n12 := x.1.1.2.1
  have pk := par_ok x.1.1 c0 c1
  have hl := hdT_len (π := π) (c := c)
  unfold wX10_tell
  intro h1 e1
  have q1 : TlC h h1 (0, fun _ => 0) := ⟨by rw [e1, up_eq], fun i i0 i1 => by have i1' : i < (0 : Int) := i1; omega, fun k k1 _ => by rw [e1, up_k k1]⟩
  refine putText_c (n := 5) q1 rfl (by omega) ⟨Int.le_refl (0 : Int), by show (0 : Int) + 5 ≤ 96; omega⟩ (fun h2 q2 => ?_)
  have x2 := x.tl q2
  have e37 := (x2.2.1.2.1 c c0 c1).1
  have l5 : (strA 3 ((0 : Int), fun _ => (0 : Int)) 5).1 = 5 := strA_len 5
  rw [e37]
  have go : ∀ hh, TlC h hh (hdT π c) → wX10_tell_38 0 c 1 10 P hh := by
    intro hh qh
    unfold wX10_tell_38
    have loop : ∀ (d m : Nat) (hh : HP), 3 - m = d → m ≤ 3 → TlC h hh (cursT σ c (hdT π c) m) → wX10_tell_41 0 c 1 10 (fun h29 => wX10_putText 0 7 h29 (fun h30 => P h30)) (d + 1) m hh := by
      intro d
      induction d with
      | zero =>
        intro m hh hd hm tq
        have e : m = 3 := by omega
        subst e
        have cl := cursT_len (σ := σ) (c := c) (t := hdT π c) 3
        rw [wX10_tell_41]
        exact ⟨by omega, fun _ => putText_c (n := 1) tq rfl (by omega) (by omega) (fun h' q' => k h' q'), fun z => absurd (by omega) z⟩
      | succ d ih =>
        intro m hh hd hm tq
        have cl := cursT_len (σ := σ) (c := c) (t := hdT π c) m
        have xh := x.tl tq
        have sl := xh.slot (s := 3 * c + m) (by omega) (by omega)
        rw [wX10_tell_41, show c * 3 + (m : Int) = 3 * c + m by omega]
        refine ⟨by omega, fun z => absurd z (by omega), fun _ => has_c (σ := σ) ⟨by omega, sl.2.2⟩ sl.1 sl.2.1 (fun y hy hq => ⟨by omega, fun z => ?_, fun z => ⟨⟨by omega, fun _ => by omega⟩, fun t14 h14 => ?_⟩⟩)⟩
        · unfold wX10_tell_124
          have : curT σ c m (cursT σ c (hdT π c) m) = cursT σ c (hdT π c) m := by unfold curT; rw [if_neg (fun u => by have := hq.mpr u; omega)]
          have tq' : TlC h hh (cursT σ c (hdT π c) (m + 1)) := by show TlC h hh (curT σ c m (cursT σ c (hdT π c) m)); rw [this]; exact tq
          exact ih (m + 1) hh (by omega) (by omega) tq'
        · have hm0 := hq.mp (by omega)
          have ww := sl.2.1.1.2 hm0
          unfold wellC at ww
          have e14 : t14 = 8 + m := by
            by_cases u : (m : Int) = 0
            · rw [h14.2 u]; omega
            · by_cases v : (m : Int) = 1
              · rw [(h14.1 u).2 v]; omega
              · rw [(h14.1 u).1 v]; omega
          have sL : strL t14 = 6 := by
            rw [e14]
            have : m = 0 ∨ m = 1 ∨ m = 2 := by omega
            rcases this with u | u | u <;> subst u <;> rfl
          have l6 := strA_len (s := t14) (t := cursT σ c (hdT π c) m) 6
          refine putText_c (n := 6) tq sL (by omega) (by omega) (fun h16 q16 => ?_)
          have a1 := (x.tl q16).2.2.2.1.2.2.2.2 (3 * c + m) (by omega) (by omega)
          rw [a1.1]
          have b1 := numA_len (v := σ 9 (3 * c + m) 0) (t := strA t14 (cursT σ c (hdT π c) m) 6)
          refine ⟨by omega, putNum_c q16 (by omega) (by omega) (fun h18 q18 => ?_)⟩
          have a2 := (x.tl q18).2.2.2.1.2.2.2.2 (3 * c + m) (by omega) (by omega)
          rw [a2.2.1]
          have b2 := numA_len (v := σ 10 (3 * c + m) 0) (t := numA (σ 9 (3 * c + m) 0) (strA t14 (cursT σ c (hdT π c) m) 6))
          refine ⟨by omega, putNum_c q18 (by omega) (by omega) (fun h20 q20 => ?_)⟩
          have a3 := (x.tl q20).2.2.2.1.2.2.2.2 (3 * c + m) (by omega) (by omega)
          rw [a3.2.2.1]
          refine ⟨by omega, putNum_c q20 (by omega) (by omega) (fun h22 q22 => ?_)⟩
          unfold wX10_tell_124
          have e : cursT σ c (hdT π c) (m + 1) = numA (σ 11 (3 * c + m) 0) (numA (σ 10 (3 * c + m) 0) (numA (σ 9 (3 * c + m) 0) (strA t14 (cursT σ c (hdT π c) m) 6))) := by
            show curT σ c m (cursT σ c (hdT π c) m) = _
            unfold curT
            rw [if_pos hm0, e14]
          exact ih (m + 1) h22 (by omega) (by omega) (by rw [e]; exact q22)
    exact ⟨_, loop 3 0 hh rfl (by omega) qh⟩
  refine ⟨by omega, by omega, fun z => go h2 (by unfold hdT; rw [if_pos z]; exact q2), fun z => ?_⟩
  have l8 := strA_len (s := 6) (t := strA 3 ((0 : Int), fun _ => (0 : Int)) 5) 3
  refine putText_c (n := 3) q2 rfl (by omega) (by omega) (fun h31 q31 => ?_)
  rw [((x.tl q31).2.1.2.1 c c0 c1).1]
  exact ⟨by omega, putNum_c q31 (by omega) (by omega) (fun h33 q33 => go h33 (by unfold hdT; rw [if_neg z]; exact q33))⟩
noncomputable def toldV (π : PL) (σ : ST) (c i : Int) : Int × Int := @ite (Int × Int) ((0 ≤ c ∧ c < π 0 0) ∧ -1 ≤ i ∧ i < (toldT π σ c).1) (Classical.propDecidable _) (0, if i = -1 then (toldT π σ c).1 else (toldT π σ c).2 i) (1, 0)
theorem told_c {h : HP} {π : PL} {K c i : Int} {σ : ST} {P : Int → HP → Prop} {X : Nat → HP → Prop} (x : LX h 10 π K σ) (hc : inR c) (hi : inR i)
    (k : ∀ h' v, FrQC h h' → toldV π σ c i = (0, v) → P v h') (kx : ∀ h', FrQC h h' → toldV π σ c i = (1, 0) → X 0 h') : wX11_told 0 c i h P X := by
  unfold wX11_told
  refine needClass_c x.1 x.2.1 hc (fun cc => tell_c x cc.1 cc.2 (fun h2 q2 => ?_)) (fun nc => kx h (FrQC.rf h) (by unfold toldV; rw [if_neg (fun u => nc u.1)]))
  have tl := toldT_len (π := π) (σ := σ) (c := c)
  have f : FrQC h h2 := fun k i q _ _ => by
    have q' : ¬ (k = 0 ∨ k = 2 ∨ k = 3 ∨ k = 4 ∨ k = 10 ∨ k = 20 ∨ k = 21 ∨ k = 22 ∨ k = 44) := q
    rw [q2.2.2 k (by omega) (by omega)]
  have no : ¬ (-1 ≤ i ∧ i < (toldT π σ c).1) → X 0 h2 := fun n => kx h2 f (by unfold toldV; rw [if_neg (fun u => n u.2)])
  rw [q2.1]
  refine ⟨hi, fun z => ⟨hi, fun z2 => no (by omega), fun z2 => ⟨hi, by omega, fun z3 => ⟨by omega, ?_⟩, fun z3 => no (by omega)⟩⟩, fun z => ?_⟩
  · rw [q2.2.1 i (by omega) z3]
    exact k h2 _ f (by unfold toldV; rw [if_pos ⟨cc, by omega, z3⟩, if_neg z])
  · exact k h2 _ f (by unfold toldV; rw [if_pos ⟨cc, by omega, by omega⟩, if_pos z])
