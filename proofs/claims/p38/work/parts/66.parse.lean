abbrev RD : Type := Int × TK × PL
def tOK (n : Int) (t : TK) : Prop := (0 ≤ t.1 ∧ t.1 ≤ t.2.1 ∧ t.2.1 ≤ n) ∧ (0 ≤ t.2.2.1 ∧ t.2.2.1 ≤ 9) ∧ (t.2.2.1 ≠ 0 → t.1 < t.2.1) ∧ (0 ≤ t.2.2.2 ∧ t.2.2.2 ≤ 1000000)
noncomputable def nexT (T : Int → Int) (n : Int) (t : TK) : TK := tokA T n t.2.1
theorem tOK.next {T : Int → Int} {n : Int} {t : TK} (h : tOK n t) : tOK n (nexT T n t) ∧ t.2.1 ≤ (nexT T n t).1 := by
  have r := tokA_rng (T := T) (n := n) (p := t.2.1) h.1.2.2
  have := h.1
  unfold tOK nexT
  exact ⟨⟨by omega, r.2.1, r.2.2.1, r.2.2.2⟩, r.1.1⟩
def numF (t : TK) (lo hi : Int) : Int := if t.2.2.1 = 2 then (if t.2.2.2 < lo ∨ hi < t.2.2.2 then 2 else 0) else 1
theorem numF_0 {t : TK} {lo hi : Int} : numF t lo hi = 0 ↔ t.2.2.1 = 2 ∧ lo ≤ t.2.2.2 ∧ t.2.2.2 ≤ hi := by
  unfold numF
  by_cases c : t.2.2.1 = 2
  · rw [if_pos c]; split <;> omega
  · rw [if_neg c]; omega
theorem numF_rng {t : TK} {lo hi : Int} : 0 ≤ numF t lo hi ∧ numF t lo hi ≤ 2 := by
  unfold numF
  split
  · split <;> omega
  · omega
def upP (π : PL) (k : Nat) (a v : Int) : PL := fun k' a' => if k' = k ∧ a' = a then v else π k' a'
theorem upP_eq {π : PL} {k : Nat} {a v : Int} : upP π k a v k a = v := if_pos ⟨rfl, rfl⟩
theorem upP_a {π : PL} {k k' : Nat} {a a' v : Int} (h : a' ≠ a) : upP π k a v k' a' = π k' a' := if_neg (fun u => h u.2)
theorem upP_k {π : PL} {k k' : Nat} {a v : Int} (h : k' ≠ k) : upP π k a v k' = π k' := by
  funext a'
  exact if_neg (fun u => h u.1)
def putD (δ : PL) (s a b c : Int) : PL := upP (upP (upP δ 6 s a) 7 s b) 8 s c
theorem putD_k {δ : PL} {s a b c : Int} {k : Nat} (h : k < 6) : putD δ s a b c k = δ k := by unfold putD; rw [upP_k (by omega), upP_k (by omega), upP_k (by omega)]
theorem putD_s {δ : PL} {s a b c : Int} : putD δ s a b c 6 s = a ∧ putD δ s a b c 7 s = b ∧ putD δ s a b c 8 s = c := by
  unfold putD
  exact ⟨by rw [upP_k (by decide), upP_k (by decide), upP_eq], by rw [upP_k (by decide), upP_eq], upP_eq⟩
theorem putD_o {δ : PL} {s a b c u : Int} {k : Nat} (h : u ≠ s) : putD δ s a b c k u = δ k u := by unfold putD; rw [upP_a h, upP_a h, upP_a h]
def addC (δ : PL) (i : Int) : PL := upP (putD (upP δ 1 (δ 0 0) i) (3 * δ 0 0 + 1) 10 0 10) 0 0 (δ 0 0 + 1)
def addF (δ : PL) (l e p z : Int) : PL := upP (upP (upP (upP (upP δ 2 (δ 0 1) l) 3 (δ 0 1) e) 4 (δ 0 1) p) 5 (δ 0 1) z) 0 1 (δ 0 1 + 1)
noncomputable def curD3 (T : Int → Int) (n : Int) (t : TK) (a b : Int) (δ : PL) (s : Int) : RD := if numF t 1 100 ≠ 0 then (numF t 1 100, t, δ) else (0, nexT T n t, putD δ s a b t.2.2.2)
noncomputable def curD2 (T : Int → Int) (n : Int) (t : TK) (a : Int) (δ : PL) (s : Int) : RD := if numF t 0 30 ≠ 0 then (numF t 0 30, t, δ) else curD3 T n (nexT T n t) a t.2.2.2 δ s
noncomputable def curD (T : Int → Int) (n : Int) (t : TK) (δ : PL) (s : Int) : RD := if numF t 0 100 ≠ 0 then (numF t 0 100, t, δ) else curD2 T n (nexT T n t) t.2.2.2 δ s
noncomputable def curvesD (T : Int → Int) (n b : Int) : Nat → Int → TK → PL → RD
  | 0, _, t, δ => (0, t, δ)
  | f + 1, d, t, δ => if t.2.2.1 = 3 then (0, t, δ) else if t.2.2.1 < 7 then (1, t, δ) else if bAnd (bShr d (t.2.2.1 - 7)) 1 = 1 then (5, t, δ) else
      if (curD T n (nexT T n t) δ (b + (t.2.2.1 - 7))).1 ≠ 0 then curD T n (nexT T n t) δ (b + (t.2.2.1 - 7)) else
        curvesD T n b f (bOr d (bShl 1 (t.2.2.1 - 7))) (curD T n (nexT T n t) δ (b + (t.2.2.1 - 7))).2.1 (curD T n (nexT T n t) δ (b + (t.2.2.1 - 7))).2.2
def holdD (δ : PL) (i : Int) : Prop := i < δ 0 0 ∧ δ 8 (3 * i) ≤ 0 ∧ ∀ f, 0 ≤ f → f < δ 0 1 → δ 2 f ≠ i
noncomputable def class2 (T : Int → Int) (n : Int) (t : TK) (δ : PL) : RD := if numF t 0 11 ≠ 0 then (numF t 0 11, t, δ) else @ite RD (holdD δ t.2.2.2) (Classical.propDecidable _) (curvesD T n (3 * δ 0 0) 4 0 (nexT T n t) (addC δ t.2.2.2)) (3, t, δ)
noncomputable def class1 (T : Int → Int) (n : Int) (t : TK) (δ : PL) : RD := if t.2.2.1 = 6 then class2 T n (nexT T n t) δ else curvesD T n (3 * δ 0 0) 4 0 t (addC δ 12)
noncomputable def classD (T : Int → Int) (n : Int) (t : TK) (δ : PL) : RD := if 12 ≤ δ 0 0 then (2, t, δ) else class1 T n (nexT T n t) δ
noncomputable def flow4 (T : Int → Int) (n : Int) (t : TK) (l e p : Int) (δ : PL) : RD := if numF t 1 64 ≠ 0 then (numF t 1 64, t, δ) else (if (nexT T n t).2.2.1 = 3 then 0 else 1, nexT T n t, addF δ l e p t.2.2.2)
noncomputable def flow3 (T : Int → Int) (n : Int) (t : TK) (l e : Int) (δ : PL) : RD := if numF t 0 199 ≠ 0 then (numF t 0 199, t, δ) else flow4 T n (nexT T n t) l e t.2.2.2 δ
noncomputable def flow2 (T : Int → Int) (n : Int) (t : TK) (l : Int) (δ : PL) : RD := if numF t 1 200 ≠ 0 then (numF t 1 200, t, δ) else flow3 T n (nexT T n t) l t.2.2.2 δ
noncomputable def flow1 (T : Int → Int) (n : Int) (t : TK) (δ : PL) : RD := if numF t 0 11 ≠ 0 then (numF t 0 11, t, δ) else if t.2.2.2 < δ 0 0 ∧ kids δ t.2.2.2 = 0 then flow2 T n (nexT T n t) t.2.2.2 δ else (3, t, δ)
noncomputable def flowD (T : Int → Int) (n : Int) (t : TK) (δ : PL) : RD := if 8 ≤ δ 0 1 then (2, t, δ) else flow1 T n (nexT T n t) δ
noncomputable def clauseD (T : Int → Int) (n : Int) (t : TK) (δ : PL) : RD := if t.2.2.1 = 4 then classD T n t δ else if t.2.2.1 = 5 then flowD T n t δ else (1, t, δ)
noncomputable def parseD (T : Int → Int) (n : Int) : Nat → TK → PL → RD
  | 0, t, δ => (0, t, δ)
  | f + 1, t, δ => if t.2.2.1 = 0 then (0, t, δ) else if (clauseD T n t δ).1 ≠ 0 then clauseD T n t δ else parseD T n f (nexT T n (clauseD T n t δ).2.1) (clauseD T n t δ).2.2
theorem kidN_cg {δ δ' : PL} {x : Int} : ∀ m : Nat, (∀ c, 0 ≤ c → c < m → δ' 1 c = δ 1 c) → kidN δ' x m = kidN δ x m := by
  intro m
  induction m with
  | zero => intro _; rfl
  | succ m ih =>
    intro h
    show (if δ' 1 m = x then kidN δ' x m + 1 else kidN δ' x m) = (if δ 1 m = x then kidN δ x m + 1 else kidN δ x m)
    rw [h m (by omega) (by omega), ih (fun c c0 c1 => h c c0 (by omega))]
theorem kids_cg {δ δ' : PL} {x : Int} (h0 : δ' 0 0 = δ 0 0) (h1 : δ' 1 = δ 1) : kids δ' x = kids δ x := by
  unfold kids
  rw [h0, kidN_cg _ (fun c _ _ => by rw [h1])]
theorem addC_k {δ : PL} {i : Int} {k : Nat} (h0 : k ≠ 0) (h1 : k ≠ 1) (h6 : k < 6) : addC δ i k = δ k := by unfold addC; rw [upP_k h0, putD_k h6, upP_k h1]
theorem addC_0 {δ : PL} {i : Int} : addC δ i 0 0 = δ 0 0 + 1 ∧ addC δ i 0 1 = δ 0 1 := by
  unfold addC
  exact ⟨upP_eq, by rw [upP_a (by decide), putD_k (by decide), upP_k (by decide)]⟩
theorem addC_1 {δ : PL} {i c : Int} : addC δ i 1 c = if c = δ 0 0 then i else δ 1 c := by
  unfold addC
  rw [upP_k (by decide), putD_k (by decide)]
  by_cases h : c = δ 0 0
  · rw [if_pos h, h, upP_eq]
  · rw [if_neg h, upP_a h]
theorem addC_s {δ : PL} {i : Int} : addC δ i 6 (3 * δ 0 0 + 1) = 10 ∧ addC δ i 7 (3 * δ 0 0 + 1) = 0 ∧ addC δ i 8 (3 * δ 0 0 + 1) = 10 := by
  unfold addC
  rw [upP_k (by decide), upP_k (by decide), upP_k (by decide)]
  exact putD_s
theorem addC_o {δ : PL} {i s : Int} {k : Nat} (hk : 6 ≤ k) (hs : s ≠ 3 * δ 0 0 + 1) : addC δ i k s = δ k s := by
  unfold addC
  rw [upP_k (by omega), putD_o hs, upP_k (by omega)]
theorem addC_kids {δ : PL} {i x : Int} (h0 : 0 ≤ δ 0 0) : kids (addC δ i) x = kids δ x + (if i = x then 1 else 0) := by
  unfold kids
  rw [addC_0.1, show (δ 0 0 + 1).toNat = (δ 0 0).toNat + 1 by omega]
  show (if addC δ i 1 ((δ 0 0).toNat : Nat) = x then kidN (addC δ i) x (δ 0 0).toNat + 1 else kidN (addC δ i) x (δ 0 0).toNat) = _
  rw [show (((δ 0 0).toNat : Nat) : Int) = δ 0 0 by omega, addC_1, if_pos rfl, kidN_cg (δ := δ) (δ' := addC δ i) _ (fun c c0 c1 => by rw [addC_1, if_neg (by omega)])]
  split <;> omega
theorem kids_last {δ : PL} (ht : treeOK δ) {c : Int} (c0 : δ 0 0 ≤ c + 1) (c1 : c ≤ 11) (c2 : 0 ≤ c) : kids δ c = 0 := by
  have r := kidN_pos (π := δ) (c := c) (δ 0 0).toNat
  unfold kids
  by_cases h : 0 < kidN δ c (δ 0 0).toNat
  · obtain ⟨k, k1, k2⟩ := r.2.2.mp h
    have := ht.2.2 k (by omega) (by omega)
    omega
  · omega
def DOK (δ : PL) : Prop := PlanOK δ ∧ (∀ s, 0 ≤ s → s < 36 → 0 ≤ δ 8 s ∧ (0 < δ 8 s → wellC (δ 6 s) (δ 7 s) (δ 8 s))) ∧ (∀ s, 3 * δ 0 0 ≤ s → s < 36 → δ 8 s = 0) ∧ ∀ c, 0 ≤ c → c < δ 0 0 → 0 < δ 8 (3 * c + 1) ∧ (0 < δ 8 (3 * c) → kids δ c = 0)
theorem DOK.put {δ : PL} {c k a b d : Int} (h : DOK δ) (hc : δ 0 0 = c + 1 ∧ 0 ≤ c) (hk : 0 ≤ k ∧ k ≤ 2) (w : wellC a b d) : DOK (putD δ (3 * c + k) a b d) := by
  obtain ⟨h1, h2, h3, h4⟩ := h
  have n12 := h1.1.2.1
  have e0 : putD δ (3 * c + k) a b d 0 = δ 0 := putD_k (by decide)
  have e1 : putD δ (3 * c + k) a b d 1 = δ 1 := putD_k (by decide)
  have ek : ∀ x, kids (putD δ (3 * c + k) a b d) x = kids δ x := fun x => kids_cg (by rw [e0]) e1
  have kl := kids_last h1.1 (c := c) (by omega) (by omega) hc.2
  obtain ⟨s6, s7, s8⟩ := putD_s (δ := δ) (s := 3 * c + k) (a := a) (b := b) (c := d)
  refine ⟨⟨?_, ?_, fun f f0 f1 => ?_⟩, fun s s0 s1 => ?_, fun s s0 s1 => ?_, fun x x0 x1 => ?_⟩
  · unfold treeOK; rw [e0, e1]; exact h1.1
  · rw [e0]; exact h1.2.1
  · rw [e0] at f1
    rw [ek, e0, putD_k (k := 2) (by decide), putD_k (k := 3) (by decide), putD_k (k := 4) (by decide), putD_k (k := 5) (by decide)]; exact h1.2.2 f f0 f1
  · by_cases e : s = 3 * c + k
    · subst e
      rw [s6, s7, s8]
      unfold wellC at *
      exact ⟨by omega, fun _ => w⟩
    · rw [putD_o e, putD_o e, putD_o e]; exact h2 s s0 s1
  · rw [e0] at s0
    rw [putD_o (by omega)]; exact h3 s s0 s1
  · rw [e0] at x1
    have q := h4 x x0 x1
    rw [ek]
    refine ⟨?_, fun u => ?_⟩
    · by_cases e : 3 * x + 1 = 3 * c + k
      · rw [e, s8]; unfold wellC at w; omega
      · rw [putD_o e]; exact q.1
    · by_cases e : x = c
      · rw [e]; exact kl
      · rw [putD_o (by omega)] at u; exact q.2 u
theorem DOK.cls {δ : PL} {i : Int} (h : DOK δ) (hn : δ 0 0 < 12) (hi : i = 12 ∨ (0 ≤ i ∧ holdD δ i)) : DOK (addC δ i) := by
  obtain ⟨h1, h2, h3, h4⟩ := h
  have n0 := h1.1.1
  have e0 := addC_0 (δ := δ) (i := i)
  have kl := kids_last h1.1 (c := δ 0 0) (by omega) (by omega) n0
  have ek := fun x => addC_kids (δ := δ) (i := i) (x := x) n0
  have ri : i = 12 ∨ (0 ≤ i ∧ i < δ 0 0) := by
    rcases hi with u | u
    · exact Or.inl u
    · exact Or.inr ⟨u.1, u.2.1⟩
  obtain ⟨s6, s7, s8⟩ := addC_s (δ := δ) (i := i)
  refine ⟨⟨⟨?_, ?_, fun c c0 c1 => ?_⟩, ?_, fun f f0 f1 => ?_⟩, fun s s0 s1 => ?_, fun s s0 s1 => ?_, fun x x0 x1 => ?_⟩
  · rw [e0.1]; omega
  · rw [e0.1]; omega
  · rw [e0.1] at c1
    rw [addC_1]
    by_cases e : c = δ 0 0
    · rw [if_pos e]; omega
    · rw [if_neg e]; exact h1.1.2.2 c c0 (by omega)
  · rw [e0.2]; exact h1.2.1
  · rw [e0.2] at f1
    have q := h1.2.2 f f0 f1
    rw [addC_k (k := 2) (by decide) (by decide) (by decide), addC_k (k := 3) (by decide) (by decide) (by decide), addC_k (k := 4) (by decide) (by decide) (by decide), addC_k (k := 5) (by decide) (by decide) (by decide), e0.1, ek]
    have ne : i ≠ δ 2 f := by
      rcases hi with u | u
      · omega
      · exact fun v => u.2.2.2 f f0 f1 v.symm
    rw [if_neg ne]
    exact ⟨⟨by omega, by omega⟩, q.2⟩
  · by_cases e : s = 3 * δ 0 0 + 1
    · subst e
      rw [s6, s7, s8]
      unfold wellC
      omega
    · rw [addC_o (by decide) e, addC_o (by decide) e, addC_o (by decide) e]; exact h2 s s0 s1
  · rw [e0.1] at s0
    rw [addC_o (by decide) (by omega)]; exact h3 s (by omega) s1
  · rw [e0.1] at x1
    rw [ek]
    by_cases e : x = δ 0 0
    · subst e
      rw [s8, kl]
      exact ⟨by omega, fun _ => by rw [if_neg (by omega)]; rfl⟩
    · have q := h4 x x0 (by omega)
      rw [addC_o (by decide) (by omega), addC_o (by decide) (by omega)]
      refine ⟨q.1, fun u => ?_⟩
      rw [q.2 u, if_neg (fun v => ?_)]
      · rfl
      · rcases hi with w | w
        · omega
        · have := w.2.2.1
          rw [v] at this
          omega
theorem addF_k {δ : PL} {l e p z : Int} {k : Nat} (h : k = 1 ∨ 6 ≤ k) : addF δ l e p z k = δ k := by unfold addF; rw [upP_k (by omega), upP_k (by omega), upP_k (by omega), upP_k (by omega), upP_k (by omega)]
theorem addF_0 {δ : PL} {l e p z : Int} : addF δ l e p z 0 0 = δ 0 0 ∧ addF δ l e p z 0 1 = δ 0 1 + 1 := by
  unfold addF
  exact ⟨by rw [upP_a (by decide), upP_k (by decide), upP_k (by decide), upP_k (by decide), upP_k (by decide)], upP_eq⟩
theorem addF_n {δ : PL} {l e p z : Int} : addF δ l e p z 2 (δ 0 1) = l ∧ addF δ l e p z 3 (δ 0 1) = e ∧ addF δ l e p z 4 (δ 0 1) = p ∧ addF δ l e p z 5 (δ 0 1) = z := by
  unfold addF
  refine ⟨?_, ?_, ?_, ?_⟩
  · rw [upP_k (by decide), upP_k (by decide), upP_k (by decide), upP_k (by decide), upP_eq]
  · rw [upP_k (by decide), upP_k (by decide), upP_k (by decide), upP_eq]
  · rw [upP_k (by decide), upP_k (by decide), upP_eq]
  · rw [upP_k (by decide), upP_eq]
theorem addF_o {δ : PL} {l e p z f : Int} {k : Nat} (hk : 2 ≤ k) (h : f ≠ δ 0 1) : addF δ l e p z k f = δ k f := by
  unfold addF
  rw [upP_k (by omega), upP_a h, upP_a h, upP_a h, upP_a h]
theorem DOK.flw {δ : PL} {l e p z : Int} (h : DOK δ) (hn : δ 0 1 < 8) (hl : 0 ≤ l ∧ l < δ 0 0) (hk : kids δ l = 0) (he : 1 ≤ e ∧ e ≤ 200) (hp : 0 ≤ p ∧ p ≤ 199) (hz : 1 ≤ z ∧ z ≤ 64) : DOK (addF δ l e p z) := by
  obtain ⟨h1, h2, h3, h4⟩ := h
  have e0 := addF_0 (δ := δ) (l := l) (e := e) (p := p) (z := z)
  have e1 : addF δ l e p z 1 = δ 1 := addF_k (Or.inl rfl)
  have n := h1.2.1
  have ek : ∀ x, kids (addF δ l e p z) x = kids δ x := fun x => kids_cg e0.1 e1
  obtain ⟨n2, n3, n4, n5⟩ := addF_n (δ := δ) (l := l) (e := e) (p := p) (z := z)
  refine ⟨⟨?_, ?_, fun f f0 f1 => ?_⟩, fun s s0 s1 => ?_, fun s s0 s1 => ?_, fun x x0 x1 => ?_⟩
  · unfold treeOK; rw [e0.1, e1]; exact h1.1
  · rw [e0.2]; omega
  · rw [e0.2] at f1
    rw [ek, e0.1]
    by_cases u : f = δ 0 1
    · subst u
      rw [n2, n3, n4, n5]
      exact ⟨⟨hl, hk⟩, he, hp, hz⟩
    · rw [addF_o (by decide) u, addF_o (by decide) u, addF_o (by decide) u, addF_o (by decide) u]
      exact h1.2.2 f f0 (by omega)
  · rw [addF_k (k := 6) (Or.inr (by decide)), addF_k (k := 7) (Or.inr (by decide)), addF_k (k := 8) (Or.inr (by decide))]; exact h2 s s0 s1
  · rw [e0.1] at s0
    rw [addF_k (k := 8) (Or.inr (by decide))]; exact h3 s s0 s1
  · rw [e0.1] at x1
    rw [ek, addF_k (k := 8) (Or.inr (by decide))]; exact h4 x x0 x1
