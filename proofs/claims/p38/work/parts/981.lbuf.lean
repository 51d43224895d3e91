/-! what the law writes: a text into an object's tape -/
theorem tI_and (a b c : Int32) : (a ||| b) &&& c = (a &&& c) ||| (b &&& c) := by
  apply Int32.toBitVec_inj.mp
  rw [Int32.toBitVec_and, Int32.toBitVec_or, Int32.toBitVec_or, Int32.toBitVec_and, Int32.toBitVec_and, BitVec.and_or_distrib_right]
set_option maxRecDepth 100000 in
theorem by_lit : ∀ b : Nat, b < 256 → ∀ k : Nat, k < 4 → ∀ j : Nat, j < 4 → (((Int32.ofInt (b : Int) <<< (Int32.ofInt (24 - 8 * (k : Int)) &&& 31)) >>> (Int32.ofInt (24 - 8 * (j : Int)) &&& 31)) &&& Int32.ofInt 255) = if j = k then Int32.ofInt (b : Int) else 0 := by decide +kernel
theorem by_or {x b k j : Int} (hb : 0 ≤ b ∧ b ≤ 255) (hk : 0 ≤ k ∧ k < 4) (hj : 0 ≤ j ∧ j < 4) (h0 : byA x k = 0) : byA (bOr x (bShl b (24 - 8 * k))) j = if j = k then b else byA x j := by
  unfold byA bAnd bShr at h0 ⊢
  unfold bOr bShl
  simp only [Int32.ofInt_toInt] at h0 ⊢
  have L := by_lit b.toNat (by omega) k.toNat (by omega) j.toNat (by omega)
  rw [show ((b.toNat : Nat) : Int) = b by omega, show ((k.toNat : Nat) : Int) = k by omega, show ((j.toNat : Nat) : Int) = j by omega] at L
  rw [Int32.shiftRight_or, tI_and, L]
  by_cases e : j = k
  · subst e
    rw [if_pos rfl, if_pos rfl]
    have z : (Int32.ofInt x >>> (Int32.ofInt (24 - 8 * j) &&& 31)) &&& Int32.ofInt 255 = 0 := Int32.toInt_inj.mp h0
    rw [z, Int32.zero_or]
    exact Int32.toInt_ofInt_of_le (by omega) (by omega)
  · rw [if_neg (by omega), if_neg e, Int32.or_zero]
theorem by_zero : ∀ k : Nat, k < 4 → byA 0 (k : Int) = 0 := by decide +kernel
theorem by_z {k : Int} (hk : 0 ≤ k ∧ k < 4) : byA 0 k = 0 := by
  have := by_zero k.toNat (by omega)
  rw [show ((k.toNat : Nat) : Int) = k by omega] at this
  exact this
theorem arg_at {f : Int → Int} {i : Int} (hi : 0 ≤ i ∧ i < 20) : argA (f 0) (f 1) (f 2) (f 3) (f 4) i = f (i / 4) := by
  unfold argA
  by_cases a : i < 4
  · rw [if_pos a, show i / 4 = 0 by omega]
  · rw [if_neg a]
    by_cases b : i < 8
    · rw [if_pos b, show i / 4 = 1 by omega]
    · rw [if_neg b]
      by_cases c : i < 12
      · rw [if_pos c, show i / 4 = 2 by omega]
      · rw [if_neg c]
        by_cases d : i < 16
        · rw [if_pos d, show i / 4 = 3 by omega]
        · rw [if_neg d, show i / 4 = 4 by omega]
def tx (L : List Int) (j : Int) : Int := L.getD j.toNat 0
theorem tx_app {L M : List Int} {j : Int} (h0 : 0 ≤ j) : tx (L ++ M) j = if j < (L.length : Int) then tx L j else tx M (j - (L.length : Int)) := by
  unfold tx
  rw [List.getD_eq_getElem?_getD]
  by_cases c : j < (L.length : Int)
  · rw [if_pos c, List.getElem?_append_left (by omega), List.getD_eq_getElem?_getD]
  · rw [if_neg c, List.getElem?_append_right (by omega), List.getD_eq_getElem?_getD, show j.toNat - L.length = (j - (L.length : Int)).toNat by omega]
theorem tx_one {b : Int} : tx [b] 0 = b := rfl
theorem kd_3 : kd 3 = 203 := rfl
theorem ob_pt {o : Int} {h g : HP} {k : Nat} (hk : k < 100) : ob o (pt o h g) k = g k := by
  show (if 100 * (o - 1).toNat ≤ k + 100 * (o - 1).toNat ∧ k + 100 * (o - 1).toNat < 100 * (o - 1).toNat + 100 then g (k + 100 * (o - 1).toNat - 100 * (o - 1).toNat) else h (k + 100 * (o - 1).toNat)) = _
  rw [if_pos (by omega), Nat.add_sub_cancel]
theorem pt_out {o : Int} {h g : HP} {k : Nat} (hk : k < 100 * (o - 1).toNat ∨ 100 * (o - 1).toNat + 100 ≤ k) : pt o h g k = h k := by
  show (if 100 * (o - 1).toNat ≤ k ∧ k < 100 * (o - 1).toNat + 100 then _ else h k) = _
  rw [if_neg (by omega)]
/-- all but the object o and the array w is as it was -/
def FrO (o : Int) (h h' : HP) : Prop := ∀ k : Nat, (k < 100 * (o - 1).toNat ∨ 100 * (o - 1).toNat + 100 ≤ k) → k ≠ 203 → h' k = h k
theorem FrO.rf (o : Int) (h : HP) : FrO o h h := fun _ _ _ => rfl
theorem FrO.tr {o : Int} {h h' h'' : HP} (a : FrO o h h') (b : FrO o h' h'') : FrO o h h'' := fun k q r => by rw [b k q r, a k q r]
theorem prC.lt {k : Nat} {i : Int} (h : prC k i) : k < 49 := h.1
theorem CI_ob {o : Int} {h h' : HP} {π : PL} {s : SD} {im : IM} {t : TX} (ho : o = 1 ∨ o = 2) (q : CI (ob o h) π s im t) (e : ∀ k, k ≠ 203 → h' k = h k) : CI (ob o h') π s im t :=
  q.cg (fun k i hk => by
    have := hk.lt
    show h' (k + 100 * (o - 1).toNat) i = h (k + 100 * (o - 1).toNat) i
    rw [e _ (by omega)])
theorem CI_pt {o : Int} {h g : HP} {π : PL} {s : SD} {im : IM} {t : TX} (q : CI g π s im t) : CI (ob o (pt o h g)) π s im t :=
  q.cg (fun k i hk => by
    have := hk.lt
    rw [ob_pt (by omega)])
def Wk (h : HP) (n : Int) (L : List Int) : Prop := h (kd 3) 0 5 = n ∧ ∀ j, 0 ≤ j → j < 20 → byA (h (kd 3) 0 (j / 4)) (j % 4) = if j < n % 20 then tx L (n - n % 20 + j) else 0
def Buf (o K : Int) (π : PL) (s : SD) (im : IM) (u : Int × (Int → Int)) (L : List Int) (h : HP) : Prop :=
  (L.length ≤ 700 ∧ ∀ x ∈ L, 0 ≤ x ∧ x ≤ 255) ∧ Wk h (L.length : Int) L ∧ ∃ t : TX, WA π K s im t ∧ CI (ob o h) π s im t ∧ t.1 = (L.length : Int) - (L.length : Int) % 20 ∧ (∀ j, 0 ≤ j → j < (L.length : Int) - (L.length : Int) % 20 → t.2.1 j = tx L j) ∧ t.2.2 = u
theorem zero_s {G : GG} {o b : Int} {K : HP → Prop} : ∀ (d : Nat) (l : Int) (h : HP), l + (d : Int) = 5 → 0 ≤ l → (∀ i, 0 ≤ i → i < l → h (kd 3) 0 i = 0) → (∀ h' : HP, (∀ k, k ≠ 203 → h' k = h k) → (∀ i, 0 ≤ i → i < 5 → h' (kd 3) 0 i = 0) → h' (kd 3) 0 5 = h (kd 3) 0 5 → K h') → wL_add_65 G o b K (d + 1) l h := by
  intro d
  induction d with
  | zero =>
    intro l h e l0 hz k
    rw [wL_add_65]
    exact ⟨by omega, fun _ => k h (fun _ _ => rfl) (fun i i0 i1 => hz i i0 (by omega)) rfl, fun z => absurd (by omega) z⟩
  | succ d ih =>
    intro l h e l0 hz k
    rw [wL_add_65]
    refine ⟨by omega, fun z => absurd z (by omega), fun _ => ⟨by omega, fun h1 e1 => ?_⟩⟩
    refine ih (l + 1) h1 (by omega) (by omega) (fun i i0 i1 => ?_) (fun h' f z z5 => k h' (fun q hq => ?_) z ?_)
    · rw [e1, up_ji]
      by_cases c : i = l
      · rw [if_pos c]
      · rw [if_neg c]; exact hz i i0 (by omega)
    · rw [f q hq, e1, up_k (by rw [kd_3]; exact hq)]
    · rw [z5, e1, up_j (by omega)]
theorem add_s {G : GG} {o K b : Int} {π : PL} {s : SD} {im : IM} {u : Int × (Int → Int)} {L : List Int} {h : HP} {P : HP → Prop} (ho : o = 1 ∨ o = 2) (q : Buf o K π s im u L h) (hn : L.length < 700) (hb : 0 ≤ b ∧ b ≤ 255) (k : ∀ h', FrO o h h' → Buf o K π s im u (L ++ [b]) h' → P h') : wL_add G o b h P := by
  obtain ⟨⟨q1, q2⟩, ⟨w5, wj⟩, t, wa, ci, t1, t2, t3⟩ := q
  have len : (((L ++ [b]).length : Nat) : Int) = (L.length : Int) + 1 := by rw [List.length_append]; rfl
  have q2' : ∀ x ∈ L ++ [b], 0 ≤ x ∧ x ≤ 255 := fun x hx => by
    rcases List.mem_append.mp hx with z | z
    · exact q2 x z
    · rw [List.mem_singleton.mp z]; exact hb
  have txL : ∀ j, 0 ≤ j → j < (L.length : Int) → tx (L ++ [b]) j = tx L j := fun j j0 j1 => by rw [tx_app j0, if_pos j1]
  have txb : tx (L ++ [b]) (L.length : Int) = b := by rw [tx_app (by omega), if_neg (by omega), show (L.length : Int) - (L.length : Int) = 0 by omega]; rfl
  have ll : (L ++ [b]).length ≤ 700 := by rw [List.length_append]; show L.length + 1 ≤ 700; omega
  have hn' : (L.length : Int) < 700 := by omega
  have hn0 : (0 : Int) ≤ (L.length : Int) := by omega
  generalize (L.length : Int) = n at *
  unfold wL_add
  rw [w5]
  refine ⟨by omega, by omega, by omega, by omega, by omega, fun h5 e5 h7 e7 => ?_⟩
  have a5 : h5 (kd 3) 0 5 = n := by rw [e5, up_j (by omega), w5]
  rw [a5] at e7
  have c7 : h7 (kd 3) 0 5 = n + 1 := by rw [e7, up_eq]
  have f7 : ∀ x, x ≠ 203 → h7 x = h x := fun x hx => by rw [e7, up_k (by rw [kd_3]; exact hx), e5, up_k (by rw [kd_3]; exact hx)]
  have B7 : ∀ j, 0 ≤ j → j < 20 → byA (h7 (kd 3) 0 (j / 4)) (j % 4) = if j < n % 20 + 1 then tx (L ++ [b]) (n - n % 20 + j) else 0 := by
    intro j j0 j1
    have wjj := wj j j0 j1
    rw [e7, up_j (by omega), e5, up_ji]
    by_cases c : j / 4 = n % 20 / 4
    · have w0 := wj (n % 20) (by omega) (by omega)
      rw [if_neg (by omega), show n % 20 % 4 = n % 4 by omega] at w0
      rw [if_pos c, by_or hb (by omega) (by omega) w0]
      by_cases e : j % 4 = n % 4
      · have ej : j = n % 20 := by omega
        rw [if_pos e, if_pos (by omega), show n - n % 20 + j = n by omega, txb]
      · rw [if_neg e, ← c, wjj]
        by_cases z : j < n % 20
        · rw [if_pos z, if_pos (by omega), txL _ (by omega) (by omega)]
        · rw [if_neg z, if_neg (by omega)]
    · rw [if_neg c, wjj]
      by_cases z : j < n % 20
      · rw [if_pos z, if_pos (by omega), txL _ (by omega) (by omega)]
      · rw [if_neg z, if_neg (by omega)]
  have ci7 : CI (ob o h7) π s im t := CI_ob ho ci f7
  rw [c7]
  refine ⟨by omega, by omega, fun z => ?_, fun z => ?_⟩
  · refine feed_c wa ci7 (fun g f le cg h11 e11 => ⟨6, ?_⟩) (fun no => absurd (by omega) no)
    have p11 : ∀ x, (x < 100 * (o - 1).toNat ∨ 100 * (o - 1).toNat + 100 ≤ x) → h11 x = h7 x := fun x hx => by rw [e11, pt_out hx]
    have p203 : h11 203 = h7 203 := p11 203 (by omega)
    refine zero_s 5 0 h11 (by decide) (by decide) (fun i i0 i1 => by omega) (fun h' f' z' z5 => k h' (fun x hx hx2 => by rw [f' x hx2, p11 x hx, f7 x hx2]) ?_)
    refine ⟨⟨ll, q2'⟩, ⟨?_, fun j j0 j1 => ?_⟩, feedT t (h7 (kd 3) 0 0) (h7 (kd 3) 0 1) (h7 (kd 3) 0 2) (h7 (kd 3) 0 3) (h7 (kd 3) 0 4), wa.feed (by omega), ?_, ?_, fun j j0 j1 => ?_, t3⟩
    · rw [len, z5, kd_3, p203, ← kd_3, c7]
    · rw [len, if_neg (by omega), z' _ (by omega) (by omega)]
      exact by_z (by omega)
    · refine CI_ob (h := h11) ho ?_ f'
      rw [e11]
      exact CI_pt cg
    · show t.1 + 20 = _
      rw [len]
      omega
    · rw [len] at j1
      show (if t.1 ≤ j ∧ j < t.1 + 20 then byA (argA (h7 (kd 3) 0 0) (h7 (kd 3) 0 1) (h7 (kd 3) 0 2) (h7 (kd 3) 0 3) (h7 (kd 3) 0 4) (j - t.1)) ((j - t.1) % 4) else t.2.1 j) = _
      by_cases c : t.1 ≤ j ∧ j < t.1 + 20
      · rw [if_pos c, arg_at (f := fun i => h7 (kd 3) 0 i) (by omega)]
        show byA (h7 (kd 3) 0 ((j - t.1) / 4)) ((j - t.1) % 4) = _
        rw [B7 (j - t.1) (by omega) (by omega), if_pos (by omega), show n - n % 20 + (j - t.1) = j by omega]
      · rw [if_neg c, t2 j j0 (by omega), txL j j0 (by omega)]
  · refine k h7 (fun x _ hx => f7 x hx) ⟨⟨ll, q2'⟩, ⟨by rw [len]; exact c7, fun j j0 j1 => ?_⟩, t, wa, ci7, by rw [len]; omega, fun j j0 j1 => ?_, t3⟩
    · rw [len, B7 j j0 j1, show (n + 1) % 20 = n % 20 + 1 by omega, show n + 1 - (n % 20 + 1) + j = n - n % 20 + j by omega]
    · rw [len] at j1
      rw [t2 j j0 (by omega), txL j j0 (by omega)]
/-! words, numbers -/
def sayB (v : Int) : Nat → List Int
  | 0 => []
  | k + 1 => (v / 256 ^ k % 256) :: sayB v k
theorem sayB_len (v : Int) : ∀ k : Nat, (sayB v k).length = k := by
  intro k
  induction k with
  | zero => rfl
  | succ k ih => show (sayB v k).length + 1 = k + 1; rw [ih]
section LS
variable {G : GG} {o K : Int} {π : PL} {s : SD} {im : IM} {u : Int × (Int → Int)}
theorem sayK_s {v : Int} (ho : o = 1 ∨ o = 2) : ∀ (k : Nat) {L : List Int} {h : HP} {P : HP → Prop}, Buf o K π s im u L h → L.length + k ≤ 700 → (∀ h', FrO o h h' → Buf o K π s im u (L ++ sayB v k) h' → P h') → sayK G o v k P h := by
  intro k
  induction k with
  | zero =>
    intro L h P q _ kk
    exact kk h (FrO.rf o h) (by show Buf o K π s im u (L ++ []) h; rw [List.append_nil]; exact q)
  | succ k ih =>
    intro L h P q hl kk
    show wL_add G o (v / 256 ^ k % 256) h (sayK G o v k P)
    refine add_s ho q (by omega) (by omega) (fun h1 f1 q1 => ih q1 (by rw [List.length_append]; show L.length + 1 + k ≤ 700; omega) (fun h2 f2 q2 => kk h2 (f1.tr f2) ?_))
    show Buf o K π s im u (L ++ (v / 256 ^ k % 256) :: sayB v k) h2
    rw [List.append_assoc] at q2
    exact q2
theorem say_s {v n : Int} {L : List Int} {h : HP} {P : HP → Prop} (ho : o = 1 ∨ o = 2) (hm : (v, n) ∈ sayL) (q : Buf o K π s im u L h) (hl : L.length + n.toNat ≤ 700) (kk : ∀ h', FrO o h h' → Buf o K π s im u (L ++ sayB v n.toNat) h' → P h') : wL_say G o v n h P :=
  ⟨hm, sayK_s ho n.toNat q hl kk⟩
theorem n1_s {v : Int} {L : List Int} {h : HP} {P : HP → Prop} (ho : o = 1 ∨ o = 2) (hv : 0 ≤ v ∧ v ≤ 999) (q : Buf o K π s im u L h) (hl : L.length + 1 ≤ 700) (kk : ∀ h', FrO o h h' → Buf o K π s im u (L ++ [48 + v % 10]) h' → P h') : wL_number_18 G o v P 2 1 h := by
  rw [wL_number_18]
  refine ⟨by omega, fun z => absurd z (by decide), fun _ => ⟨by omega, by decide, by omega, ?_⟩⟩
  rw [Int.ediv_one]
  refine add_s ho q (by omega) (by omega) (fun h1 f1 q1 => ⟨by decide, ?_⟩)
  rw [wL_number_18]
  exact ⟨by decide, fun _ => kk h1 f1 q1, fun z => absurd (by decide) z⟩
theorem n10_s {v : Int} {L : List Int} {h : HP} {P : HP → Prop} (ho : o = 1 ∨ o = 2) (hv : 0 ≤ v ∧ v ≤ 999) (q : Buf o K π s im u L h) (hl : L.length + 2 ≤ 700) (kk : ∀ h', FrO o h h' → Buf o K π s im u (L ++ [48 + v / 10 % 10, 48 + v % 10]) h' → P h') : wL_number_18 G o v P 3 10 h := by
  rw [wL_number_18]
  refine ⟨by omega, fun z => absurd z (by decide), fun _ => ⟨by omega, by decide, by omega, ?_⟩⟩
  refine add_s ho q (by omega) (by omega) (fun h1 f1 q1 => ⟨by decide, ?_⟩)
  refine n1_s ho hv q1 (by rw [List.length_append]; show L.length + 1 + 1 ≤ 700; omega) (fun h2 f2 q2 => kk h2 (f1.tr f2) ?_)
  rw [List.append_assoc] at q2
  exact q2
theorem n100_s {v : Int} {L : List Int} {h : HP} {P : HP → Prop} (ho : o = 1 ∨ o = 2) (hv : 0 ≤ v ∧ v ≤ 999) (q : Buf o K π s im u L h) (hl : L.length + 3 ≤ 700) (kk : ∀ h', FrO o h h' → Buf o K π s im u (L ++ [48 + v / 100 % 10, 48 + v / 10 % 10, 48 + v % 10]) h' → P h') : wL_number_18 G o v P 4 100 h := by
  rw [wL_number_18]
  refine ⟨by omega, fun z => absurd z (by decide), fun _ => ⟨by omega, by decide, by omega, ?_⟩⟩
  refine add_s ho q (by omega) (by omega) (fun h1 f1 q1 => ⟨by decide, ?_⟩)
  refine n10_s ho hv q1 (by rw [List.length_append]; show L.length + 1 + 2 ≤ 700; omega) (fun h2 f2 q2 => kk h2 (f1.tr f2) ?_)
  rw [List.append_assoc] at q2
  exact q2
theorem number_s {v : Int} {L : List Int} {h : HP} {P : HP → Prop} (ho : o = 1 ∨ o = 2) (hv : 0 ≤ v ∧ v ≤ 999) (q : Buf o K π s im u L h) (hl : L.length + 3 ≤ 700) (kk : ∀ h', FrO o h h' → Buf o K π s im u (L ++ dg v) h' → P h') : wL_number G o v h P := by
  unfold wL_number
  unfold dg at kk
  by_cases c : 100 ≤ v
  · rw [if_pos c] at kk
    refine ⟨3, ?_⟩
    rw [wL_number_2]
    refine ⟨by omega, by decide, by omega, fun z => absurd z (by omega), fun _ => ?_⟩
    rw [wL_number_2]
    refine ⟨by omega, by decide, by omega, fun z => absurd z (by omega), fun _ => ?_⟩
    rw [wL_number_2]
    refine ⟨by omega, by decide, by omega, fun _ => ⟨4, ?_⟩, fun z => absurd (by omega) z⟩
    refine n100_s ho hv q hl (fun h' f q' => kk h' f ?_)
    rw [show v / 100 % 10 = v / 100 by omega] at q'
    exact q'
  · rw [if_neg c] at kk
    by_cases c2 : 10 ≤ v
    · rw [if_pos c2] at kk
      refine ⟨2, ?_⟩
      rw [wL_number_2]
      refine ⟨by omega, by decide, by omega, fun z => absurd z (by omega), fun _ => ?_⟩
      rw [wL_number_2]
      refine ⟨by omega, by decide, by omega, fun _ => ⟨3, ?_⟩, fun z => absurd (by omega) z⟩
      refine n10_s ho hv q (by omega) (fun h' f q' => kk h' f ?_)
      rw [show v / 10 % 10 = v / 10 by omega] at q'
      exact q'
    · rw [if_neg c2] at kk
      refine ⟨1, ?_⟩
      rw [wL_number_2]
      refine ⟨by omega, by decide, by omega, fun _ => ⟨2, ?_⟩, fun z => absurd (by omega) z⟩
      refine n1_s ho hv q (by omega) (fun h' f q' => kk h' f ?_)
      rw [show v % 10 = v by omega] at q'
      exact q'
theorem c3_len (a b c : Int) : (c3 a b c).length ≤ 12 := by
  have := dg_len a
  have := dg_len b
  have := dg_len c
  unfold c3
  simp only [List.length_cons, List.length_append]
  omega
theorem three_s {a b c : Int} {L : List Int} {h : HP} {P : HP → Prop} (ho : o = 1 ∨ o = 2) (w : wellC a b c) (q : Buf o K π s im u L h) (hl : L.length + 12 ≤ 700) (kk : ∀ h', FrO o h h' → Buf o K π s im u (L ++ c3 a b c) h' → P h') : wL_three G o a b c h P := by
  unfold wellC at w
  have la := dg_len a
  have lb := dg_len b
  unfold wL_three
  refine add_s ho q (by omega) (by decide) (fun h1 f1 q1 => ?_)
  have l1 : (L ++ [32]).length = L.length + 1 := by rw [List.length_append]; rfl
  refine number_s ho (by omega) q1 (by omega) (fun h2 f2 q2 => ?_)
  have l2 : (L ++ [32] ++ dg a).length ≤ L.length + 4 := by rw [List.length_append]; omega
  refine add_s ho q2 (by omega) (by decide) (fun h3 f3 q3 => ?_)
  have l3 : (L ++ [32] ++ dg a ++ [32]).length ≤ L.length + 5 := by rw [List.length_append]; show _ + 1 ≤ _; omega
  refine number_s ho (by omega) q3 (by omega) (fun h4 f4 q4 => ?_)
  have l4 : (L ++ [32] ++ dg a ++ [32] ++ dg b).length ≤ L.length + 8 := by rw [List.length_append]; omega
  refine add_s ho q4 (by omega) (by decide) (fun h5 f5 q5 => ?_)
  have l5 : (L ++ [32] ++ dg a ++ [32] ++ dg b ++ [32]).length ≤ L.length + 9 := by rw [List.length_append]; show _ + 1 ≤ _; omega
  refine number_s ho (by omega) q5 (by omega) (fun h6 f6 q6 => kk h6 (((((f1.tr f2).tr f3).tr f4).tr f5).tr f6) ?_)
  have e : L ++ [32] ++ dg a ++ [32] ++ dg b ++ [32] ++ dg c = L ++ c3 a b c := by
    unfold c3
    simp only [List.append_assoc, List.cons_append, List.nil_append]
  rw [e] at q6
  exact q6
/-- behind the end: the tape has all of it -/
def Done (o K : Int) (π : PL) (s : SD) (im : IM) (u : Int × (Int → Int)) (L : List Int) (h : HP) : Prop :=
  Wk h 0 [] ∧ ∃ t : TX, WA π K s im t ∧ CI (ob o h) π s im t ∧ (L.length : Int) ≤ t.1 ∧ (∀ j, 0 ≤ j → j < (L.length : Int) → t.2.1 j = tx L j) ∧ t.2.2 = u
theorem end4_s {l2 : Int} {K1 : HP → Prop} (ho : o = 1 ∨ o = 2) : ∀ (d : Nat) {L : List Int} {h : HP}, Buf o K π s im u L h → (L.length + d) % 20 = 0 → d < 20 → L.length + d ≤ 700 → (∀ h', FrO o h h' → Buf o K π s im u (L ++ List.replicate d 32) h' → K1 h') → wL_end_4 G o l2 K1 (d + 1) h := by
  intro d
  induction d with
  | zero =>
    intro L h q h0 _ _ kk
    have w5 := q.2.1.1
    have l7 := q.1.1
    rw [wL_end_4, w5]
    refine ⟨by omega, by omega, fun _ => kk h (FrO.rf o h) ?_, fun z => absurd (by omega) z⟩
    show Buf o K π s im u (L ++ []) h
    rw [List.append_nil]
    exact q
  | succ d ih =>
    intro L h q h0 hd hl kk
    have w5 := q.2.1.1
    have l7 := q.1.1
    rw [wL_end_4, w5]
    refine ⟨by omega, by omega, fun z => absurd z (by omega), fun _ => add_s ho q (by omega) (by decide) (fun h1 f1 q1 => ?_)⟩
    have l1 : (L ++ [32]).length = L.length + 1 := by rw [List.length_append]; rfl
    refine ih q1 (by rw [l1]; omega) (by omega) (by omega) (fun h2 f2 q2 => kk h2 (f1.tr f2) ?_)
    rw [List.replicate_succ]
    rw [List.append_assoc] at q2
    exact q2
theorem end_s {L : List Int} {h : HP} {P : Int → HP → Prop} (ho : o = 1 ∨ o = 2) (q : Buf o K π s im u L h) (hl : L.length ≤ 680) (kk : ∀ h', FrO o h h' → Done o K π s im u L h' → P (L.length : Int) h') : wL_end G o h P := by
  have w5 := q.2.1.1
  unfold wL_end
  rw [w5]
  refine ⟨(20 - L.length % 20) % 20 + 1, end4_s ho ((20 - L.length % 20) % 20) q (by omega) (by omega) (by omega) (fun h1 f1 q1 h7 e7 => kk h7 (fun x hx hx2 => by rw [e7, up_k (by rw [kd_3]; exact hx2), f1 x hx hx2]) ?_)⟩
  generalize hD : (20 - L.length % 20) % 20 = d at q1
  have lr : (L ++ List.replicate d 32).length = L.length + d := by rw [List.length_append, List.length_replicate]
  obtain ⟨-, ⟨w51, wj1⟩, t, wa, ci, t1, t2, t3⟩ := q1
  rw [lr] at t1 t2 wj1
  refine ⟨⟨by rw [e7, up_eq], fun j j0 j1 => ?_⟩, t, wa, CI_ob ho ci (fun x hx => by rw [e7, up_k (by rw [kd_3]; exact hx)]), by omega, fun j j0 j1 => ?_, t3⟩
  · rw [e7, up_j (by omega), wj1 j j0 j1, if_neg (by omega), if_neg (by omega)]
  · rw [t2 j j0 (by omega), tx_app j0, if_pos j1]
end LS
