/-! isRight, formula by formula -/
section RGT
variable {G : GG} {K : Int} {π : PL} {s : SD} {im : IM} {t : TX} {N : Nat} {pr : Nat → Int} {hs : Nat → Nat → Bool} {cu : Nat → Nat → Int × Int × Int} {h0 : HP}
/-- the plan of the object is the one of the arrays -/
def PN (G : GG) (h0 : HP) (π : PL) (N : Nat) (pr : Nat → Int) (hs : Nat → Nat → Bool) (cu : Nat → Nat → Int × Int × Int) : Prop := DatOK N pr hs cu ∧ DatH G h0 N pr hs cu ∧ (π 0 0 = (N : Int) ∧ π 0 1 = 0) ∧ ∀ c : Nat, c < N → π 1 (c : Int) = pr c
def Q1 (h0 : HP) (K : Int) (π : PL) (s : SD) (im : IM) (t : TX) (h : HP) : Prop := St 1 K π s im t h ∧ H204 h0 h
theorem Q1.inv {h : HP} (q : Q1 h0 K π s im t h) : AInv π K s.1 ∧ s.1 0 0 0 ≤ 2000 := q.1.1.2.1.1
theorem Q1.pok {h : HP} (q : Q1 h0 K π s im t h) : PlanOK π := q.1.1.1
theorem FrB.h {h h' : HP} (f : FrB 1 h h') : H204 h h' := fun k hk => f.e1 k (by omega)
theorem q_of {c b v : Int} {h : HP} {P : Int → HP → Prop} (q : Q1 h0 K π s im t h) (hc : 0 ≤ c ∧ c < π 0 0) (hb : inR b) (hv : ofV π s.1 c b = (0, v)) (kk : ∀ h', Q1 h0 K π s im t h' → P v h') : wX11_of 0 c b (ob 1 h) (fun x g => ∀ h1 : HP, h1 = pt 1 h g → P x h1) XF := of_o q.1 hc hb hv (fun h' f a => kk h' ⟨a, q.2.tr f.h⟩)
theorem q_count {b v : Int} {h : HP} {P : Int → HP → Prop} (q : Q1 h0 K π s im t h) (hb : inR b) (hv : countV π s t b = (0, v)) (kk : ∀ h', Q1 h0 K π s im t h' → P v h') : wX11_count 0 b (ob 1 h) (fun x g => ∀ h1 : HP, h1 = pt 1 h g → P x h1) XF := count_o q.1 hb hv (fun h' f a => kk h' ⟨a, q.2.tr f.h⟩)
theorem PN.par {h : HP} (p : PN G h0 π N pr hs cu) (e : H204 h0 h) {c : Nat} (hc : c < N) : h (kd 4) 0 (c : Int) = rc (pr c) := (p.2.1.fr e).2.1 c hc
theorem PN.npi (p : PN G h0 π N pr hs cu) : npI G = (N : Int) := by unfold npI; rw [p.2.1.1]
theorem PN.n6 (p : PN G h0 π N pr hs cu) : 1 ≤ N ∧ N ≤ 6 := p.1.1
theorem PN.rg (p : PN G h0 π N pr hs cu) {c : Nat} (hc : c < N) : pr c = 12 ∨ (0 ≤ pr c ∧ pr c < (c : Int)) := by
  rcases (p.1.2 c hc).1 with z | ⟨z, -⟩
  · exact Or.inl z
  · exact Or.inr z
theorem PN.rcb (p : PN G h0 π N pr hs cu) {c : Nat} (hc : c < N) : -1 ≤ rc (pr c) ∧ rc (pr c) ≤ 12 := by
  have := p.n6
  unfold rc
  split <;> rcases p.rg hc with z | z <;> omega
theorem PN.rcc (p : PN G h0 π N pr hs cu) {c j : Nat} (hc : c < N) (hj : j < N) : rc (pr j) = (c : Int) ↔ π 1 (j : Int) = (c : Int) := by
  have := p.n6
  rw [p.2.2.2 j hj]
  unfold rc
  split
  · omega
  · exact Iff.rfl
theorem PN.neg (p : PN G h0 π N pr hs cu) {c : Nat} (hc : c < N) : 0 ≤ rc (pr c) ↔ π 1 (c : Int) ≠ 12 := by
  have := p.n6
  rw [p.2.2.2 c hc]
  unfold rc
  rcases p.rg hc with z | z
  · rw [if_pos z]; omega
  · rw [if_neg (by omega)]; omega
theorem ofV_2 {σ : ST} {c : Int} (hc : 0 ≤ c ∧ c < π 0 0) : ofV π σ c 2 = (0, if 0 < hel π σ c then 1 else 0) := by unfold ofV; rw [if_neg (by omega)]; rfl
theorem ofV_3 {σ : ST} {c : Int} (hc : 0 ≤ c ∧ c < π 0 0) : ofV π σ c 3 = (0, σ 1 c 0) := by unfold ofV; rw [if_neg (by omega)]; rfl
theorem ofV_4 {σ : ST} {c : Int} (hc : 0 ≤ c ∧ c < π 0 0) : ofV π σ c 4 = (0, σ 2 c 0) := by unfold ofV; rw [if_neg (by omega)]; rfl
theorem ofV_5 {σ : ST} {c : Int} (hc : 0 ≤ c ∧ c < π 0 0) : ofV π σ c 5 = (0, σ 3 c 0) := by unfold ofV; rw [if_neg (by omega)]; rfl
theorem ofV_6 {σ : ST} {c : Int} (hc : 0 ≤ c ∧ c < π 0 0) : ofV π σ c 6 = (0, σ 4 c 0) := by unfold ofV; rw [if_neg (by omega)]; rfl
theorem ofV_7 {σ : ST} {c : Int} (hc : 0 ≤ c ∧ c < π 0 0) : ofV π σ c 7 = (0, σ 5 c 0) := by unfold ofV; rw [if_neg (by omega)]; rfl
theorem ofV_8 {σ : ST} {c : Int} (hc : 0 ≤ c ∧ c < π 0 0) : ofV π σ c 8 = (0, σ 6 c 0) := by unfold ofV; rw [if_neg (by omega)]; rfl
theorem inr_s {a : Int} (h : -1000 ≤ a ∧ a ≤ 1000) : inR a := by unfold inR; omega
theorem cls_b {σ : ST} {c : Int} (inv : AInv π K σ) (hT : σ 0 0 0 ≤ 2000) (hc : 0 ≤ c ∧ c < π 0 0) : (0 ≤ σ 1 c 0 ∧ σ 1 c 0 ≤ 2064) ∧ (0 ≤ σ 2 c 0 ∧ σ 2 c 0 ≤ σ 1 c 0) ∧ (0 ≤ σ 3 c 0 ∧ σ 3 c 0 ≤ 13000000) ∧ (0 ≤ σ 4 c 0 ∧ σ 4 c 0 ≤ 13000000) ∧ 0 ≤ σ 5 c 0 ∧ 0 ≤ σ 6 c 0 ∧ σ 6 c 0 ≤ 20 := by
  obtain ⟨a1, a2, a3, a4, a5, a6, a7, a8, a9, a10⟩ := inv
  have b := a7 c hc.1 hc.2
  have d := a8 c (Or.inl hc)
  unfold classOK at b
  omega
theorem leaf_s {c : Nat} {h : HP} {P : Int → HP → Prop} (p : PN G h0 π N pr hs cu) (e : H204 h0 h) (hc : c < N) (k1 : kids π (c : Int) = 0 → P 1 h) (k0 : kids π (c : Int) ≠ 0 → P 0 h) : wL_isLeaf G (c : Int) h P := by
  have n6 := p.n6
  have en := p.2.2.1.1
  have kp := kidN_pos (π := π) (c := (c : Int)) (π 0 0).toNat
  have ek : kids π (c : Int) = kidN π (c : Int) (π 0 0).toNat := rfl
  have loop : ∀ (d k : Nat), k + d = N → (∀ j : Nat, j < k → π 1 (j : Int) ≠ (c : Int)) → wL_isLeaf_8 G (c : Int) (npI G) h (P 1 h) (P 0 h) (d + 1) (k : Int) := by
    intro d
    induction d with
    | zero =>
      intro k hk no
      rw [wL_isLeaf_8, p.npi]
      refine ⟨by omega, by omega, fun _ => k1 ?_, fun z => absurd (by omega) z⟩
      rcases Int.lt_or_le 0 (kids π (c : Int)) with u | u
      · obtain ⟨j, j1, j2⟩ := kp.2.2.mp (by omega)
        exact absurd j2 (no j (by omega))
      · omega
    | succ d ih =>
      intro k hk no
      have b := p.rcb (c := k) (by omega)
      rw [wL_isLeaf_8, p.npi]
      rw [p.par e (show k < N by omega)]
      refine ⟨by omega, by omega, fun z => absurd z (by omega), fun _ => ⟨by omega, by omega, by omega, fun z => ?_, fun z => k0 ?_⟩⟩
      · have := ih (k + 1) (by omega) (fun j hj => by
          rcases Nat.lt_or_ge j k with u | u
          · exact no j u
          · have ej : j = k := by omega
            subst ej
            exact fun w => z ((p.rcc hc (by omega)).mpr w))
        rw [p.npi, show ((k + 1 : Nat) : Int) = (k : Int) + 1 by omega] at this
        exact this
      · have := kp.2.2.mpr ⟨k, by omega, (p.rcc hc (by omega)).mp z⟩
        omega
  unfold wL_isLeaf
  exact ⟨_, loop N 0 (by omega) (fun j hj => absurd hj (Nat.not_lt_zero j))⟩
noncomputable def inP (π : PL) (σ : ST) (c : Int) (m : Nat) : Int := sumN (fun k => if π 1 (k : Int) = c then σ 1 (k : Int) 0 else 0) m
noncomputable def wiP (π : PL) (σ : ST) (c : Int) (m : Nat) : Int := sumN (fun k => if π 1 (k : Int) = c then (if 0 < hel π σ (k : Int) then 1 else 0) else 0) m
theorem r32_s {c : Nat} {l2 l3 l4 l5 : Int} {K95 : Int → Int → Int → HP → Prop} (p : PN G h0 π N pr hs cu) (r : RI π s.1) (hc : c < N) : ∀ (d k : Nat) {h : HP} {l9 : Int}, k + d = N → Q1 h0 K π s im t h → 0 ≤ l9 ∧ l9 ≤ s.1 4 (c : Int) 0 → (∀ h' l9', Q1 h0 K π s im t h' → 0 ≤ l9' ∧ l9' ≤ s.1 4 (c : Int) 0 → K95 (inP π s.1 (c : Int) N) (wiP π s.1 (c : Int) N) l9' h') → wL_isRight_32 G l2 l3 l4 l5 (c : Int) K95 (d + 1) (inP π s.1 (c : Int) k) (wiP π s.1 (c : Int) k) l9 (k : Int) h := by
  have n6 := p.n6
  have en := p.2.2.1.1
  intro d
  induction d with
  | zero =>
    intro k h l9 hk q b kk
    have ek : k = N := by omega
    subst ek
    rw [wL_isRight_32, p.npi]
    exact ⟨by omega, by omega, fun _ => kk h l9 q b, fun z => absurd (Int.le_refl _) z⟩
  | succ d ih =>
    intro k h l9 hk q b kk
    have hkN : k < N := by omega
    have bb := p.rcb hkN
    obtain ⟨inv, hT⟩ := q.inv
    have b4 := (cls_b inv hT (c := (c : Int)) ⟨by omega, by omega⟩).2.2.2.1
    have hk' : 0 ≤ (k : Int) ∧ (k : Int) < π 0 0 := ⟨by omega, by omega⟩
    have bk := cls_b inv hT hk'
    rw [wL_isRight_32, p.npi, p.par q.2 hkN]
    refine ⟨by omega, by omega, fun z => absurd z (by omega), fun _ => ⟨by omega, by omega, by omega, fun z => ?_, fun z => ?_⟩⟩
    · have w := (p.rcc hc hkN).mp z
      refine q_of q hk' (inr_s (by omega)) (ofV_3 hk') (fun h1 q1 => ?_)
      refine q_of q1 hk' (inr_s (by omega)) (ofV_2 hk') (fun h2 q2 => ?_)
      refine q_of q2 hk' (inr_s (by omega)) (ofV_5 hk') (fun h3 q3 => ?_)
      have pk := r.1 (k : Int) hk'.1 hk'.2
      rw [w] at pk
      refine ⟨by omega, by omega, ?_⟩
      unfold wL_isRight_89
      have := ih (k + 1) (h := h3) (l9 := max l9 (s.1 3 (k : Int) 0)) (by omega) q3 (by omega) kk
      have e1 : inP π s.1 (c : Int) (k + 1) = inP π s.1 (c : Int) k + s.1 1 (k : Int) 0 := by
        show inP π s.1 (c : Int) k + (if π 1 (k : Int) = (c : Int) then s.1 1 (k : Int) 0 else 0) = _
        rw [if_pos w]
      have e2 : wiP π s.1 (c : Int) (k + 1) = wiP π s.1 (c : Int) k + (if 0 < hel π s.1 (k : Int) then 1 else 0) := by
        show wiP π s.1 (c : Int) k + (if π 1 (k : Int) = (c : Int) then (if 0 < hel π s.1 (k : Int) then 1 else 0) else 0) = _
        rw [if_pos w]
      rw [e1, e2, show ((k + 1 : Nat) : Int) = (k : Int) + 1 by omega] at this
      exact this
    · have w : ¬ π 1 (k : Int) = (c : Int) := fun u => z ((p.rcc hc hkN).mpr u)
      unfold wL_isRight_89
      have := ih (k + 1) (h := h) (l9 := l9) (by omega) q b kk
      have e1 : inP π s.1 (c : Int) (k + 1) = inP π s.1 (c : Int) k := by
        show inP π s.1 (c : Int) k + (if π 1 (k : Int) = (c : Int) then s.1 1 (k : Int) 0 else 0) = _
        rw [if_neg w, Int.add_zero]
      have e2 : wiP π s.1 (c : Int) (k + 1) = wiP π s.1 (c : Int) k := by
        show wiP π s.1 (c : Int) k + (if π 1 (k : Int) = (c : Int) then (if 0 < hel π s.1 (k : Int) then 1 else 0) else 0) = _
        rw [if_neg w, Int.add_zero]
      rw [e1, e2, show ((k + 1 : Nat) : Int) = (k : Int) + 1 by omega] at this
      exact this
/-- a class is active if and only if one right in it is -/
theorem wi_hel {σ : ST} {c : Int} (ht : treeOK π) (inv : AInv π K σ) (hc : 0 ≤ c ∧ c < π 0 0) (hk : kids π c ≠ 0) : 0 < wiP π σ c (π 0 0).toNat ↔ 0 < hel π σ c := by
  have n12 := ht.2.1
  have nn : ∀ k, 0 ≤ k → k < π 0 0 → 0 ≤ σ 6 k 0 := fun k k0 k1 => (inv.2.2.2.2.2.2.1 k k0 k1).2.2.2.1.1
  have z6 := (inv.2.2.2.2.2.2.1 c hc.1 hc.2).2.2.2.2.1 hk
  unfold wiP
  rw [sumN_pos (fun k _ => by
    show 0 ≤ (if π 1 (k : Int) = c then (if 0 < hel π σ (k : Int) then (1 : Int) else 0) else 0)
    split
    · split <;> decide
    · decide), hel_pos nn]
  constructor
  · rintro ⟨k, k1, k2⟩
    have k2' : 0 < (if π 1 (k : Int) = c then (if 0 < hel π σ (k : Int) then (1 : Int) else 0) else 0) := k2
    by_cases w : π 1 (k : Int) = c
    · rw [if_pos w] at k2'
      by_cases v : 0 < hel π σ (k : Int)
      · obtain ⟨j, j0, j1, j2, j3⟩ := (hel_pos nn).mp v
        exact ⟨j, j0, j1, inCh_par (by omega) j2 w, j3⟩
      · rw [if_neg v] at k2'; omega
    · rw [if_neg w] at k2'; omega
  · rintro ⟨j, j0, j1, ⟨i, ji⟩, j3⟩
    obtain ⟨d, d0, d1, d2, d3⟩ := inCh_kid ht i j0 j1 ji (fun u => by subst u; omega)
    have ed : ((d.toNat : Nat) : Int) = d := by omega
    refine ⟨d.toNat, by omega, ?_⟩
    show 0 < (if π 1 (d.toNat : Int) = c then (if 0 < hel π σ (d.toNat : Int) then (1 : Int) else 0) else 0)
    rw [ed, if_pos d2, if_pos ((hel_pos nn).mpr ⟨j, j0, j1, d3, j3⟩)]
    decide
theorem hel_12 {σ : ST} (ht : treeOK π) : hel π σ 12 = sumN (fun k => σ 6 (k : Int) 0) (π 0 0).toNat :=
  sumN_congr (fun k hk => helT_y (inCh_all ht (by omega) (by omega)))
def s5 (σ : ST) (m : Nat) : Int := sumN (fun c => σ 5 (c : Int) 0) m
def s6 (σ : ST) (m : Nat) : Int := sumN (fun c => σ 6 (c : Int) 0) m
def sA (σ : ST) (m : Nat) : Int := sumN (fun c => if 0 < σ 6 (c : Int) 0 then 1 else 0) m
def sS (π : PL) (σ : ST) (m : Nat) : Int := sumN (fun c => if π 1 (c : Int) = 12 then σ 1 (c : Int) 0 else 0) m
theorem sA_le (σ : ST) : ∀ m : Nat, 0 ≤ sA σ m ∧ sA σ m ≤ m := by
  intro m
  induction m with
  | zero => exact ⟨Int.le_refl _, Int.le_refl _⟩
  | succ m ih =>
    have e : sA σ (m + 1) = sA σ m + (if 0 < σ 6 (m : Int) 0 then 1 else 0) := rfl
    rw [e]
    split <;> omega
/-- the end of a turn of the classes -/
theorem r239_s {c : Nat} {l10 : Int} {K13 : Int → Int → Int → Int → Int → HP → Prop} {K328 : HP → Prop} {h : HP} (p : PN G h0 π N pr hs cu) (r : RI π s.1) (hc : c < N) (q : Q1 h0 K π s im t h) (hl : (l10 = 0 ∧ kids π (c : Int) ≠ 0) ∨ (l10 = 1 ∧ kids π (c : Int) = 0)) (kk : ∀ h', Q1 h0 K π s im t h' → K13 (s6 s.1 (c + 1)) (s5 s.1 (c + 1)) (sA s.1 (c + 1)) (sS π s.1 (c + 1)) ((c : Int) + 1) h') : wL_isRight_239 G (s6 s.1 c) (s5 s.1 c) (sA s.1 c) (sS π s.1 c) (c : Int) l10 K13 K328 h := by
  have n6 := p.n6
  have en := p.2.2.1.1
  have hc' : 0 ≤ (c : Int) ∧ (c : Int) < π 0 0 := ⟨by omega, by omega⟩
  obtain ⟨inv, hT⟩ := q.inv
  have ht := q.pok.1
  have b := cls_b inv hT hc'
  have e6 : s6 s.1 (c + 1) = s6 s.1 c + s.1 6 (c : Int) 0 := rfl
  have e5 : s5 s.1 (c + 1) = s5 s.1 c + s.1 5 (c : Int) 0 := rfl
  have eA : sA s.1 (c + 1) = sA s.1 c + (if 0 < s.1 6 (c : Int) 0 then 1 else 0) := rfl
  have eS : sS π s.1 (c + 1) = sS π s.1 c + (if π 1 (c : Int) = 12 then s.1 1 (c : Int) 0 else 0) := rfl
  have bp := p.rcb hc
  have pk := r.1 (c : Int) hc'.1 hc'.2
  have b12 := inv.2.2.2.2.2.2.2.1 12 (Or.inr rfl)
  have c0 := inv.2.2.1
  have go : ∀ {h1 : HP} {x : Int}, Q1 h0 K π s im t h1 → x = (if 0 < s.1 6 (c : Int) 0 then 1 else 0) → wL_isRight_279 G (s6 s.1 c + s.1 6 (c : Int) 0) (s5 s.1 c + s.1 5 (c : Int) 0) (sS π s.1 c) (c : Int) x (sA s.1 c) (fun y2 y3 y4 y5 y6 hy => K13 y2 y3 y4 y5 y6 hy) (fun hy => K328 hy) h1 := by
    intro h1 x q1 ex
    unfold wL_isRight_279
    rw [p.npi, p.par q1.2 hc]
    refine ⟨⟨by omega, by omega⟩, by omega, fun z => ?_, fun z => ?_⟩
    · have z' := (p.neg hc).mp z
      unfold wL_isRight_302
      rw [p.npi, p.par q1.2 hc]
      refine ⟨⟨by omega, by omega⟩, by omega, fun _ => ?_, fun u => absurd z u⟩
      unfold wL_isRight_330
      have := kk h1 q1
      rw [e6, e5, eA, eS, if_neg z', ← ex] at this
      exact this
    · have z' : π 1 (c : Int) = 12 := Classical.byContradiction (fun u => z ((p.neg hc).mpr u))
      refine q_of q1 hc' (inr_s (by omega)) (ofV_3 hc') (fun h2 q2 => ?_)
      unfold wL_isRight_302
      rw [p.npi, p.par q2.2 hc]
      refine ⟨⟨by omega, by omega⟩, by omega, fun u => absurd u z, fun _ => ?_⟩
      refine q_of q2 hc' (inr_s (by omega)) (ofV_5 hc') (fun h3 q3 => ?_)
      refine q_count q3 (inr_s (by omega)) (v := s.1 4 12 0) rfl (fun h4 q4 => ?_)
      rw [z'] at pk
      refine ⟨by omega, by omega, fun _ => ?_, fun u => absurd pk u⟩
      unfold wL_isRight_330
      have := kk h4 q4
      rw [e6, e5, eA, eS, if_pos z', ← ex] at this
      exact this
  unfold wL_isRight_239
  refine q_of q hc' (inr_s (by omega)) (ofV_8 hc') (fun h1 q1 => ?_)
  refine q_of q1 hc' (inr_s (by omega)) (ofV_7 hc') (fun h2 q2 => ?_)
  refine ⟨by omega, fun z => ?_, fun z => ?_⟩
  · have k0 : kids π (c : Int) ≠ 0 := by
      rcases hl with ⟨-, u⟩ | ⟨u, -⟩
      · exact u
      · omega
    have z6 := (inv.2.2.2.2.2.2.1 _ hc'.1 hc'.2).2.2.2.2.1 k0
    exact go q2 (by rw [z6, if_neg (by decide)])
  · have k0 : kids π (c : Int) = 0 := by
      rcases hl with ⟨u, -⟩ | ⟨-, u⟩
      · exact absurd u z
      · exact u
    refine q_of q2 hc' (inr_s (by omega)) (ofV_2 hc') (fun h3 q3 => go q3 ?_)
    rw [hel_leaf ht hc'.1 hc'.2 k0]
theorem r13_s {K336 : Int → Int → Int → Int → HP → Prop} {K174 K237 K328 : HP → Prop} (p : PN G h0 π N pr hs cu) (r : RI π s.1) : ∀ (d c : Nat) {h : HP}, c + d = N → Q1 h0 K π s im t h → (∀ h', Q1 h0 K π s im t h' → K336 (s6 s.1 N) (s5 s.1 N) (sA s.1 N) (sS π s.1 N) h') → wL_isRight_13 G K336 K174 K237 K328 (d + 1) (s6 s.1 c) (s5 s.1 c) (sA s.1 c) (sS π s.1 c) (c : Int) h := by
  have n6 := p.n6
  have en := p.2.2.1.1
  intro d
  induction d with
  | zero =>
    intro c h hcd q kk
    have e : c = N := by omega
    subst e
    rw [wL_isRight_13, p.npi]
    exact ⟨by omega, by omega, fun _ => kk h q, fun z => absurd (Int.le_refl _) z⟩
  | succ d ih =>
    intro c h hcd q kk
    have hc : c < N := by omega
    have hc' : 0 ≤ (c : Int) ∧ (c : Int) < π 0 0 := ⟨by omega, by omega⟩
    obtain ⟨inv, hT⟩ := q.inv
    have ht := q.pok.1
    have b := cls_b inv hT hc'
    have eN : (π 0 0).toNat = N := by omega
    have next : ∀ h', Q1 h0 K π s im t h' → wL_isRight_13 G K336 K174 K237 K328 (d + 1) (s6 s.1 (c + 1)) (s5 s.1 (c + 1)) (sA s.1 (c + 1)) (sS π s.1 (c + 1)) ((c : Int) + 1) h' := fun h' q' => by
      have := ih (c + 1) (h := h') (by omega) q' kk
      rw [show ((c + 1 : Nat) : Int) = (c : Int) + 1 by omega] at this
      exact this
    rw [wL_isRight_13, p.npi]
    refine ⟨by omega, by omega, fun z => absurd z (by omega), fun _ => ⟨N + 1, ?_⟩⟩
    refine r32_s p r hc N 0 (by omega) q ⟨Int.le_refl _, b.2.2.2.1.1⟩ (fun h1 l9 q1 b9 => ?_)
    refine leaf_s p q1.2 hc (fun k0 => ?_) (fun k0 => ?_)
    · refine ⟨by decide, fun _ => ?_, fun z => absurd z (by decide)⟩
      unfold wL_isRight_176
      refine ⟨by decide, fun z => absurd z (by decide), fun _ => ?_⟩
      have hl := hel_leaf (σ := s.1) ht hc'.1 hc'.2 k0
      refine q_of q1 hc' (inr_s (by omega)) (ofV_2 hc') (fun h2 q2 => ?_)
      refine q_of q2 hc' (inr_s (by omega)) (ofV_8 hc') (fun h3 q3 => ?_)
      rw [hl]
      refine ⟨by omega, fun t69 ht69 => ?_⟩
      have e69 : (if 0 < s.1 6 (c : Int) 0 then (1 : Int) else 0) = t69 := by
        by_cases u : 0 < s.1 6 (c : Int) 0
        · rw [if_pos u, ht69.2 (by omega)]
        · rw [if_neg u, ht69.1 (by omega)]
      rw [e69]
      have b69 : 0 ≤ t69 ∧ t69 ≤ 1 := by rw [← e69]; split <;> omega
      refine ⟨by omega, by omega, fun z => absurd rfl z, fun _ => ?_⟩
      refine q_of q3 hc' (inr_s (by omega)) (ofV_8 hc') (fun h4 q4 => ⟨by omega, fun z => by omega, fun _ => ?_⟩)
      refine q_of q4 hc' (inr_s (by omega)) (ofV_4 hc') (fun h5 q5 => ?_)
      refine q_of q5 hc' (inr_s (by omega)) (ofV_3 hc') (fun h6 q6 => ⟨by omega, by omega, fun _ => ?_, fun z => absurd b.2.1.2 z⟩)
      exact r239_s p r hc q6 (Or.inr ⟨rfl, k0⟩) next
    · refine ⟨by decide, fun z => absurd rfl z, fun _ => ?_⟩
      obtain ⟨e1, e2⟩ := r.2.1 (c : Int) hc'.1 hc'.2 k0
      have wi := wi_hel ht inv hc' k0
      rw [eN] at wi
      have z6 := (inv.2.2.2.2.2.2.1 _ hc'.1 hc'.2).2.2.2.2.1 k0
      have ein : inP π s.1 (c : Int) N = s.1 1 (c : Int) 0 := by
        rw [e1]
        unfold inP inS
        rw [eN]
      have hn : 0 ≤ wiP π s.1 (c : Int) N ∧ wiP π s.1 (c : Int) N ≤ 1 * N := by
        unfold wiP
        refine ⟨sumN_nonneg (fun k _ => ?_), sumN_le (fun k _ => ?_)⟩
        · show 0 ≤ (if π 1 (k : Int) = (c : Int) then (if 0 < hel π s.1 (k : Int) then (1 : Int) else 0) else 0)
          split
          · split <;> decide
          · decide
        · show (if π 1 (k : Int) = (c : Int) then (if 0 < hel π s.1 (k : Int) then (1 : Int) else 0) else 0) ≤ 1
          split
          · split <;> decide
          · decide
      rw [ein]
      refine q_of q1 hc' (inr_s (by omega)) (ofV_3 hc') (fun h2 q2 => ⟨by omega, by omega, fun z => absurd rfl z, fun _ => ?_⟩)
      refine q_of q2 hc' (inr_s (by omega)) (ofV_2 hc') (fun h3 q3 => ⟨by omega, fun t100 ht100 => ?_⟩)
      have e100 : (if 0 < hel π s.1 (c : Int) then (1 : Int) else 0) = t100 := by
        by_cases u : 0 < hel π s.1 (c : Int)
        · rw [if_pos u, ht100.2 (by have := wi.mpr u; omega)]
        · rw [if_neg u, ht100.1 (by
            rcases Int.lt_or_le 0 (wiP π s.1 (c : Int) N) with v | v
            · exact absurd (wi.mp v) u
            · exact v)]
      rw [e100]
      have b100 : 0 ≤ t100 ∧ t100 ≤ 1 := by rw [← e100]; split <;> omega
      refine ⟨by omega, by omega, fun z => absurd rfl z, fun _ => ?_⟩
      refine q_of q3 hc' (inr_s (by omega)) (ofV_6 hc') (fun h4 q4 => ⟨by omega, by omega, fun z => by omega, fun _ => ?_⟩)
      refine q_of q4 hc' (inr_s (by omega)) (ofV_8 hc') (fun h5 q5 => ⟨by omega, fun z => absurd z6 z, fun _ => ?_⟩)
      refine q_of q5 hc' (inr_s (by omega)) (ofV_4 hc') (fun h6 q6 => ⟨by omega, fun _ => ?_, fun z => absurd e2 z⟩)
      unfold wL_isRight_176
      refine ⟨by decide, fun _ => ?_, fun z => absurd rfl z⟩
      exact r239_s p r hc q6 (Or.inl ⟨rfl, k0⟩) next
theorem right_s {P : Int → HP → Prop} {h : HP} (p : PN G h0 π N pr hs cu) (r : RI π s.1) (hl : T7 π s.1 ≤ 1000) (q : Q1 h0 K π s im t h) (kk : ∀ h', Q1 h0 K π s im t h' → P 1 h') : wL_isRight G h P := by
  have n6 := p.n6
  have en := p.2.2.1.1
  obtain ⟨inv, hT⟩ := q.inv
  have ht := q.pok.1
  have eN : (π 0 0).toNat = N := by omega
  have h12 := inv.hel_rng ht 12
  have hs6 : hel π s.1 12 = s6 s.1 N := by rw [hel_12 ht, eN]; rfl
  have hs5 : lostA π s.1 = s5 s.1 N := by unfold lostA s5; rw [eN]
  have hsA : activeA π s.1 = sA s.1 N := by unfold activeA sA; rw [eN]
  have hsS : sentA π s.1 = sS π s.1 N := by unfold sentA sS; rw [eN]
  have bA := sA_le s.1 N
  have b5 : 0 ≤ lostA π s.1 := sumN_nonneg (fun k hk => (inv.2.2.2.2.2.2.1 k (by omega) (by omega)).2.2.1.1)
  have bS : 0 ≤ sentA π s.1 := sumN_nonneg (fun k hk => by
    show 0 ≤ (if π 1 (k : Int) = 12 then s.1 1 (k : Int) 0 else 0)
    split
    · exact (cls_b inv hT (c := (k : Int)) ⟨by omega, by omega⟩).1.1
    · decide)
  have r3 := r.2.2.1
  have t0 := inv.1
  have c0 := inv.2.2.1
  have g0 := inv.2.2.2.1
  have u0 := inv.2.1
  unfold T7 at hl
  unfold wL_isRight
  refine ⟨N + 1, r13_s p r N 0 (by omega) q (fun h1 q1 => ?_)⟩
  refine q_count q1 (inr_s (by omega)) (v := activeA π s.1) rfl (fun h2 q2 => ?_)
  rw [hsA]
  refine ⟨by omega, by omega, fun z => absurd rfl z, fun _ => ?_⟩
  refine q_count q2 (inr_s (by omega)) (v := hel π s.1 12) rfl (fun h3 q3 => ?_)
  rw [hs6]
  refine ⟨by omega, by omega, fun z => absurd rfl z, fun _ => ?_⟩
  refine q_count q3 (inr_s (by omega)) (v := lostA π s.1) rfl (fun h4 q4 => ?_)
  rw [hs5]
  refine ⟨by omega, by omega, fun z => absurd rfl z, fun _ => ?_⟩
  refine q_count q4 (inr_s (by omega)) (v := sentA π s.1) rfl (fun h5 q5 => ?_)
  rw [hsS]
  refine ⟨by omega, by omega, fun z => absurd rfl z, fun _ => ?_⟩
  refine q_count q5 (inr_s (by omega)) (v := s.1 0 0 0) rfl (fun h6 q6 => ?_)
  refine ⟨by omega, by omega, fun z => by omega, fun _ => ?_⟩
  refine q_count q6 (inr_s (by omega)) (v := s.1 0 3 0) rfl (fun h7 q7 => ?_)
  refine q_count q7 (inr_s (by omega)) (v := s.1 0 2 0) rfl (fun h8 q8 => ?_)
  refine ⟨by omega, by omega, fun z => by omega, fun _ => ?_⟩
  refine q_count q8 (inr_s (by omega)) (v := s.1 0 1 0) rfl (fun h9 q9 => ?_)
  exact ⟨by omega, fun z => by omega, fun _ => kk h9 q9⟩
end RGT
