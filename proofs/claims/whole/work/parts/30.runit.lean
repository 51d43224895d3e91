/-! the reference: choosing, telling, a unit of time -/
theorem FrC.rf (h : HP) : FrC h h := ⟨fun _ _ _ => rfl, fun _ _ _ _ => rfl⟩
theorem FrC.tr {h h' h'' : HP} (a : FrC h h') (b : FrC h' h'') : FrC h h'' := ⟨fun k k1 k2 => by rw [b.1 k k1 k2, a.1 k k1 k2], fun j j1 j2 j3 => by rw [b.2 j j1 j2 j3, a.2 j j1 j2 j3]⟩
theorem choose_r {h : HP} {π : PL} {K : Int} {σ : ST} {P : HP → Prop} (x : RX h π K σ)
    (k : ∀ h', FrC h h' → h' 12 7 26 = chA π σ → (chA π σ ≠ -1 → h' 12 7 28 = chG π σ ∧ h' 12 7 27 = σ 7 (chA π σ) 0) → RowR (h' 56 7) π (chooseA π σ) → P h') : wX12_choose 7 h P := by
  have n12 := x.1.1.2.1
  have br := bgA_rng σ (π 0 0).toNat
  unfold wX12_choose
  refine byGrant_r x ⟨by omega, fun t4 h4 => ⟨by omega, fun h6 e6 => ?_⟩⟩
  have k6 : ∀ k, k ≠ 12 → h6 k = h k := fun k hk => by rw [e6, up_k hk]
  have x6 : RX h6 π K σ := ⟨x.1, x.2.1.congr (fun k k1 k2 => k6 k (by omega)), x.2.2.1, by rw [k6 56 (by decide)]; exact x.2.2.2⟩
  have j6 : ∀ j, j ≠ 28 → h6 12 7 j = h 12 7 j := fun j hj => by rw [e6, up_j hj]
  have f6 : FrC h h6 := ⟨fun k k1 _ => k6 k k1, fun j _ _ j3 => j6 j j3⟩
  have g6 : h6 12 7 28 = t4 := by rw [e6, up_eq]
  refine ⟨by omega, fun c => ?_, fun c => ?_⟩
  · have ec : chA π σ = bgA σ (π 0 0).toNat := by unfold chA; rw [if_pos c]
    have eg : chG π σ = 1 := by unfold chG; rw [if_pos c]
    refine choose_29_r (g := 1) x6 ?_ ⟨Or.inr rfl, by rw [g6, h4.2 c]⟩ (fun h' f1 f2 f3 f4 f5 => k h' (f6.tr f1) (by rw [f2, ec]) (fun _ => ⟨by rw [f3, eg], by rw [ec]; exact f4 c⟩) ?_)
    · rcases br with r | r
      · exact absurd r c
      · exact Or.inr ⟨r.1, by omega, r.2.2.1⟩
    · rw [chooseA_ch, ec, eg]; exact f5
  · refine byShare_r x6 ?_
    have ec : chA π σ = byShareA π σ := by unfold chA; rw [if_neg (fun y => y c)]
    have eg : chG π σ = 0 := by unfold chG; rw [if_neg (fun y => y c)]
    have cr := chA_rng x.1.1 x.2.2.1
    rw [ec] at cr
    refine choose_29_r (g := 0) x6 ?_ ⟨Or.inl rfl, by rw [g6, h4.1 c]⟩ (fun h' f1 f2 f3 f4 f5 => k h' (f6.tr f1) (by rw [f2, ec]) (fun y => ⟨by rw [f3, eg], by rw [ec] at y; rw [ec]; exact f4 y⟩) ?_)
    · rcases cr with r | r
      · exact Or.inl r
      · exact Or.inr ⟨r.1, r.2.1, r.2.2.1⟩
    · rw [chooseA_ch, ec, eg]; exact f5
/-! telling -/
/-- what is changed by units of time -/
def FrU (h h' : HP) : Prop := (∀ k, k ≠ 12 → k ≠ 56 → k ≠ 59 → k ≠ 60 → k ≠ 61 → h' k = h k) ∧ (∀ j, (j < 23 ∨ 28 < j ∨ j = 25) → j ≠ 31 → j ≠ 33 → h' 12 7 j = h 12 7 j)
theorem FrU.rf (h : HP) : FrU h h := ⟨fun _ _ _ _ _ _ => rfl, fun _ _ _ _ => rfl⟩
theorem FrU.tr {h h' h'' : HP} (a : FrU h h') (b : FrU h' h'') : FrU h h'' := ⟨fun k k1 k2 k3 k4 k5 => by rw [b.1 k k1 k2 k3 k4 k5, a.1 k k1 k2 k3 k4 k5], fun j j1 j2 j3 => by rw [b.2 j j1 j2 j3, a.2 j j1 j2 j3]⟩
theorem FrC.u {h h' : HP} (a : FrC h h') : FrU h h' := ⟨fun k k1 k2 _ _ _ => a.1 k k1 k2, fun j j1 j2 j3 => a.2 j (by omega) (by omega) (by omega)⟩
theorem FrV.u {h h' : HP} (a : FrV h h') : FrU h h' := ⟨fun k k1 k2 k3 k4 _ => a.1 k k1 k2 k3 k4, fun j j1 j2 j3 => a.2 j (by omega) (by omega)⟩
theorem PlanR.fu {h h' : HP} {π : PL} (q : PlanR h π) (f : FrU h h') : PlanR h' π := q.congr (fun k k1 k2 => f.1 k (by omega) (by omega) (by omega) (by omega) (by omega))
/-- what is changed by telling -/
def FrT (h h' : HP) : Prop := (∀ k, k ≠ 12 → k ≠ 56 → k ≠ 59 → k ≠ 60 → k ≠ 61 → h' k = h k) ∧ (∀ j, j ≠ 23 → j ≠ 24 → j ≠ 31 → j ≠ 33 → h' 12 7 j = h 12 7 j)
theorem FrT.rf (h : HP) : FrT h h := ⟨fun _ _ _ _ _ _ => rfl, fun _ _ _ _ _ => rfl⟩
theorem FrT.tr {h h' h'' : HP} (a : FrT h h') (b : FrT h' h'') : FrT h h'' := ⟨fun k k1 k2 k3 k4 k5 => by rw [b.1 k k1 k2 k3 k4 k5, a.1 k k1 k2 k3 k4 k5], fun j j1 j2 j3 j4 => by rw [b.2 j j1 j2 j3 j4, a.2 j j1 j2 j3 j4]⟩
theorem FrT.u {h h' : HP} (a : FrT h h') : FrU h h' := ⟨a.1, fun j j1 j2 j3 => a.2 j (by omega) (by omega) j2 j3⟩
theorem FrV.t {h h' : HP} (a : FrV h h') : FrT h h' := ⟨fun k k1 k2 k3 k4 _ => a.1 k k1 k2 k3 k4, fun j j1 j2 _ _ => a.2 j j1 j2⟩
theorem PlanR.ft {h h' : HP} {π : PL} (q : PlanR h π) (f : FrT h h') : PlanR h' π := q.fu f.u
/-- the times put by -/
def cameP (g : Int → Int) (wc t : Int) : Nat → Int → Int
  | 0 => g
  | m + 1 => fun i => if i = (wc + m) % 420 then t else cameP g wc t m i
/-- how many more wait in the watched -/
def accN (σ τ : ST) (W : Int) : Int := if 0 ≤ W then τ 6 W 0 - σ 6 W 0 else 0
def WatR (h h' : HP) (σ τ : ST) : Prop := h' 12 7 33 = h 12 7 33 + accN σ τ (h 12 7 32) ∧ h' 61 7 = cameP (h 61 7) (h 12 7 33) (σ 0 0 0) (accN σ τ (h 12 7 32)).toNat
noncomputable def tellW (π : PL) (w : Int) (σ : ST) (f : Int) : ST := if f = w then σ else tellA π σ f
noncomputable def tellsW (π : PL) (w : Int) : Nat → ST → ST
  | 0, σ => σ
  | m + 1, σ => tellW π w (tellsW π w m σ) m
noncomputable def unitW (π : PL) (w : Int) (σ : ST) : ST := tickA (midA π (tellsW π w (π 0 1).toNat σ))
theorem tellsW_none {π : PL} {w : Int} {σ : ST} : ∀ m : Nat, (∀ f : Nat, f < m → (f : Int) ≠ w) → tellsW π w m σ = tellsA π m σ := by
  intro m
  induction m with
  | zero => intro _; rfl
  | succ m ih =>
    intro h
    show tellW π w (tellsW π w m σ) m = tellA π (tellsA π m σ) m
    rw [ih (fun f hf => h f (by omega))]
    unfold tellW
    rw [if_neg (h m (by omega))]
theorem acceptA_0 {π : PL} {σ : ST} {l z : Int} {k : Nat} (h : k = 0 ∨ k = 8) : acceptA π σ l z k = σ k := by
  unfold acceptA
  split
  · rw [up_k (by omega)]
  · rw [climbW_k (by omega) (by omega) (by omega) (by omega), pushA_k (by omega) (by omega)]
theorem tellA_0 {π : PL} {σ : ST} {f : Int} {k : Nat} (h : k = 0 ∨ k = 8) : tellA π σ f k = σ k := by
  unfold tellA
  split
  · exact acceptA_0 h
  · rfl
theorem tellA_inv {π : PL} {K f : Int} {σ : ST} (hp : PlanOK π) (i1 : AInv π K σ) (f0 : 0 ≤ f) (f1 : f < π 0 1) : AInv π (K + 1) (tellA π σ f) := by
  obtain ⟨⟨q1, q2⟩, q3⟩ := hp.2.2 f f0 f1
  have sz := i1.2.2.2.2.2.2.2.2.1 f f0 f1
  unfold tellA
  split
  · exact acceptA_inv hp.1 i1 q1.1 q1.2 q2 sz
  · exact i1.mono (by omega)
theorem tellW_inv {π : PL} {K f w : Int} {σ : ST} (hp : PlanOK π) (i1 : AInv π K σ) (f0 : 0 ≤ f) (f1 : f < π 0 1) : AInv π (K + 1) (tellW π w σ f) := by
  unfold tellW
  split
  · exact i1.mono (by omega)
  · exact tellA_inv hp i1 f0 f1
theorem tellsW_0 {π : PL} {w : Int} {σ : ST} {k : Nat} (h : k = 0 ∨ k = 8) : ∀ m : Nat, tellsW π w m σ k = σ k := by
  intro m
  induction m with
  | zero => rfl
  | succ m ih =>
    show tellW π w (tellsW π w m σ) m k = σ k
    unfold tellW
    split
    · exact ih
    · rw [tellA_0 h]; exact ih
theorem tellsW_inv {π : PL} {K w : Int} {σ : ST} (hp : PlanOK π) (h : AInv π K σ) : ∀ m : Nat, (m : Int) ≤ π 0 1 → AInv π (K + m) (tellsW π w m σ) := by
  intro m
  induction m with
  | zero => intro _; exact h.mono (by omega)
  | succ m ih =>
    intro hm
    exact (tellW_inv hp (ih (by omega)) (by omega) (by omega)).mono (by omega)
theorem midA_inv {π : PL} {K : Int} {σ : ST} (hp : PlanOK π) (i1 : AInv π (K + 8) σ) (hT : σ 0 0 0 + 1 ≤ 2700) : AInv π K (tickA (midA π σ)) := by
  unfold midA
  split
  · rename_i q
    exact chooseA_inv hp.1 i1 hT q
  · exact tickA_inv i1 hT
theorem unitW_inv {π : PL} {K w : Int} {σ : ST} (hp : PlanOK π) (h : AInv π K σ) (hT : σ 0 0 0 + 1 ≤ 2700) : AInv π K (unitW π w σ) := by
  refine midA_inv hp ((tellsW_inv hp h (π 0 1).toNat (by have := hp.2.1; omega)).mono (by have := hp.2.1; omega)) ?_
  rw [tellsW_0 (Or.inl rfl)]; exact hT
theorem acceptA_6 {π : PL} {σ : ST} {l z b : Int} : acceptA π σ l z 6 b 0 = if b = l ∧ σ 6 l 0 < 20 then σ 6 l 0 + 1 else σ 6 b 0 := by
  unfold acceptA
  by_cases c : 20 ≤ σ 6 l 0
  · rw [if_pos c, if_neg (by omega), up_k (by decide)]
  · rw [if_neg c, climbW_k (by decide) (by decide) (by decide) (by decide)]
    by_cases y : b = l
    · subst y; rw [if_pos ⟨rfl, by omega⟩, pushA_6]
    · rw [if_neg (fun u => y u.1), pushA_6o y]
/-- whether the flow is told not to -/
def supp (h : HP) (f : Int) : Prop := f = h 12 7 29 ∧ h 12 7 31 ≤ 4 ∧ bAnd (bShr (h 12 7 30) (h 12 7 31)) 1 ≠ 0
noncomputable def tellZ (h : HP) (π : PL) (σ : ST) (f : Int) : ST := @ite ST (supp h f) (Classical.propDecidable _) σ (tellA π σ f)
theorem accN_n {σ τ : ST} {W : Int} (e : τ 6 W 0 = σ 6 W 0) : accN σ τ W = 0 := by unfold accN; rw [e]; split <;> omega
theorem tells89_r {h : HP} {π : PL} {K f v : Int} {σ : ST} {P : HP → Prop} (x : RX h π K σ) (f0 : 0 ≤ f) (f1 : f < π 0 1) (hv : v = 0 ∨ v = 1) (hW : -1 ≤ h 12 7 32 ∧ h 12 7 32 < π 0 0) (hw : 0 ≤ h 12 7 33 ∧ h 12 7 33 ≤ 1000000)
    (k : ∀ h', FrT h h' → h' 12 7 31 = h 12 7 31 → RX h' π (K + 1) (if v = 1 then acceptA π σ (π 2 f) (σ 8 f 0) else σ) → WatR h h' σ (if v = 1 then acceptA π σ (π 2 f) (σ 8 f 0) else σ) → P h') : wX12_tells_89 7 f v P h := by
  have n12 := x.1.1.2.1
  obtain ⟨hp, pr, inv, row⟩ := id x
  have n8 := hp.2.1
  obtain ⟨⟨q1, q2⟩, q3⟩ := hp.2.2 f f0 f1
  have sz := inv.2.2.2.2.2.2.2.2.1 f f0 f1
  have tr := inv.1
  unfold wX12_tells_89
  have nof : ∀ h', h' 12 7 33 = h 12 7 33 → h' 61 = h 61 → accN σ σ (h 12 7 32) = 0 ∧ WatR h h' σ σ := by
    intro h' e1 e2
    have : accN σ σ (h 12 7 32) = 0 := accN_n rfl
    refine ⟨this, ?_, ?_⟩
    · rw [this, e1]; omega
    · rw [this, e2]; rfl
  refine ⟨by omega, fun c => ⟨by omega, by omega, ?_⟩, fun c => ?_⟩
  · have v1 : v = 1 := by omega
    rw [if_pos v1] at k
    rw [(pr.2.2 f f0 f1).1, row.2.1 f f0 f1]
    refine comes_r x q1.1 q1.2 q2 sz (fun y h17 hy hy2 fv x17 => ⟨by omega, fun c2 => ?_, fun c2 => ?_⟩)
    · have full : ¬ σ 6 (π 2 f) 0 < 20 := fun u => by have := hy2.mpr u; omega
      refine k h17 fv.t (fv.2 31 (by omega) (by omega)) x17 ?_
      have e61 : h17 61 = h 61 := fv.1 61 (by omega) (by omega) (by omega) (by omega)
      have e33 : h17 12 7 33 = h 12 7 33 := fv.2 33 (by omega) (by omega)
      have : accN σ (acceptA π σ (π 2 f) (σ 8 f 0)) (h 12 7 32) = 0 := by
        exact accN_n (by rw [acceptA_6, if_neg (by omega)])
      refine ⟨?_, ?_⟩
      · rw [this, e33]; omega
      · rw [this, e61]; rfl
    · have nfull : σ 6 (π 2 f) 0 < 20 := hy2.mp (by omega)
      have e51 : h17 51 7 f = π 2 f := (x17.2.1.2.2 f f0 f1).1
      have e32 : h17 12 7 32 = h 12 7 32 := fv.2 32 (by omega) (by omega)
      have e33 : h17 12 7 33 = h 12 7 33 := fv.2 33 (by omega) (by omega)
      have e61 : h17 61 = h 61 := fv.1 61 (by omega) (by omega) (by omega) (by omega)
      have e84 : h17 56 7 3084 = σ 0 0 0 := by rw [x17.2.2.2.1.1, acceptA_0 (Or.inl rfl)]
      rw [e51, e32, e33]
      refine ⟨by omega, by omega, by omega, fun c3 => ?_, fun c3 => ⟨by omega, by omega, fun h26 e26 h28 e28 => ?_⟩⟩
      · refine k h17 fv.t (fv.2 31 (by omega) (by omega)) x17 ?_
        have : accN σ (acceptA π σ (π 2 f) (σ 8 f 0)) (h 12 7 32) = 0 := by
          exact accN_n (by rw [acceptA_6, if_neg (fun u => c3 u.1.symm)])
        refine ⟨?_, ?_⟩
        · rw [this, e33]; omega
        · rw [this, e61]; rfl
      · have k28 : ∀ k, k ≠ 12 → k ≠ 61 → h28 k = h17 k := fun k k1 k2 => by rw [e28, up_k k1, e26, up_k k2]
        have j28 : ∀ j, j ≠ 33 → h28 12 7 j = h17 12 7 j := fun j hj => by rw [e28, up_j hj, e26, up_k (by decide)]
        have fu : FrT h17 h28 := ⟨fun k k1 _ _ _ k5 => k28 k k1 k5, fun j _ _ _ j4 => j28 j j4⟩
        refine k h28 (fv.t.tr fu) (by rw [j28 31 (by decide)]; exact fv.2 31 (by omega) (by omega)) ⟨hp, x17.2.1.ft fu, x17.2.2.1, by rw [k28 56 (by decide) (by decide)]; exact x17.2.2.2⟩ ?_
        have a1 : accN σ (acceptA π σ (π 2 f) (σ 8 f 0)) (h 12 7 32) = 1 := by
          unfold accN; rw [if_pos (by omega), acceptA_6, if_pos ⟨c3.symm, nfull⟩, ← c3]; omega
        refine ⟨?_, ?_⟩
        · rw [a1, e28, up_eq, e26, up_k (by decide), e33]
        · rw [a1, e28, up_k (by decide), e26]
          funext i
          rw [up_ji, e84, e61]
          show _ = if i = (h 12 7 33 + ((0 : Nat) : Int)) % 420 then σ 0 0 0 else h 61 7 i
          rw [show h 12 7 33 + ((0 : Nat) : Int) = h 12 7 33 by omega]
  · rw [if_neg (by omega)] at k
    exact k h (FrT.rf h) rfl ⟨hp, pr, inv.mono (by omega), row⟩ (nof h rfl rfl).2
theorem accN_add {σ τ ρ : ST} {W : Int} : accN σ ρ W = accN σ τ W + accN τ ρ W := by unfold accN; split <;> omega
theorem cameP_add {g : Int → Int} {wc t : Int} (a : Nat) : ∀ b : Nat, cameP g wc t (a + b) = cameP (cameP g wc t a) (wc + a) t b := by
  intro b
  induction b with
  | zero => rfl
  | succ b ih =>
    funext i
    show (if i = (wc + ((a + b : Nat) : Int)) % 420 then t else cameP g wc t (a + b) i) = (if i = (wc + (a : Int) + (b : Int)) % 420 then t else cameP (cameP g wc t a) (wc + a) t b i)
    rw [ih, show wc + ((a + b : Nat) : Int) = wc + (a : Int) + (b : Int) by omega]
theorem WatR.tr {h h' h'' : HP} {σ τ ρ : ST} (a : WatR h h' σ τ) (b : WatR h' h'' τ ρ) (e : h' 12 7 32 = h 12 7 32) (e0 : τ 0 0 0 = σ 0 0 0) (p1 : 0 ≤ accN σ τ (h 12 7 32)) (p2 : 0 ≤ accN τ ρ (h 12 7 32)) : WatR h h'' σ ρ := by
  obtain ⟨a1, a2⟩ := a
  obtain ⟨b1, b2⟩ := b
  rw [e] at b1 b2
  refine ⟨?_, ?_⟩
  · rw [b1, a1, accN_add (σ := σ) (τ := τ) (ρ := ρ)]; omega
  · rw [b2, a2, a1, e0, accN_add (σ := σ) (τ := τ) (ρ := ρ), Int.toNat_add p1 p2, cameP_add, Int.toNat_of_nonneg p1]
theorem accA_mono {π : PL} {σ : ST} {l z W : Int} : 0 ≤ accN σ (acceptA π σ l z) W ∧ accN σ (acceptA π σ l z) W ≤ 1 := by
  unfold accN
  rw [acceptA_6]
  split
  · split
    · rename_i u; rw [u.1]; omega
    · omega
  · omega
theorem accT_mono {π : PL} {σ : ST} {f W : Int} : 0 ≤ accN σ (tellA π σ f) W ∧ accN σ (tellA π σ f) W ≤ 1 := by
  unfold tellA
  split
  · exact accA_mono
  · rw [accN_n rfl]; omega
theorem accZ_mono {h : HP} {π : PL} {σ : ST} {f W : Int} : 0 ≤ accN σ (tellZ h π σ f) W ∧ accN σ (tellZ h π σ f) W ≤ 1 := by
  unfold tellZ
  split
  · rw [accN_n rfl]; omega
  · exact accT_mono
theorem tells_r {h : HP} {π : PL} {K f : Int} {σ : ST} {P : HP → Prop} (x : RX h π K σ) (f0 : 0 ≤ f) (f1 : f < π 0 1) (hz : -1 ≤ h 12 7 29 ∧ h 12 7 29 < 100) (hs : 0 ≤ h 12 7 31 ∧ h 12 7 31 ≤ 1000000) (hW : -1 ≤ h 12 7 32 ∧ h 12 7 32 < π 0 0) (hw : 0 ≤ h 12 7 33 ∧ h 12 7 33 ≤ 1000000)
    (k : ∀ h', FrT h h' → (f ≠ h 12 7 29 ∨ ¬ tellsNow π σ f → h' 12 7 31 = h 12 7 31) → (f = h 12 7 29 ∧ tellsNow π σ f → h' 12 7 31 = h 12 7 31 + 1) → RX h' π (K + 1) (tellZ h π σ f) → WatR h h' σ (tellZ h π σ f) → P h') : wX12_tells 7 f h P := by
  have n12 := x.1.1.2.1
  obtain ⟨hp, pr, inv, row⟩ := id x
  have n8 := hp.2.1
  obtain ⟨⟨q1, q2⟩, q3⟩ := hp.2.2 f f0 f1
  have tr := inv.1
  have e90 := row.1.2.2.2.2.2.2
  have e84 := row.1.1
  have ep := pr.2.2 f f0 f1
  have b1 := bAnd1_all (bShr (σ 0 5 0) f)
  have mp := Int.emod_lt_of_pos (σ 0 0 0) (show 0 < π 3 f by omega)
  have mn := Int.emod_nonneg (σ 0 0 0) (show π 3 f ≠ 0 by omega)
  have silent : ¬ tellsNow π σ f → P h := by
    intro u
    have e : tellZ h π σ f = σ := by
      unfold tellZ
      split
      · rfl
      · unfold tellA; rw [if_neg u]
    refine k h (FrT.rf h) (fun _ => rfl) (fun c => absurd c.2 u) ?_ ?_
    · rw [e]; exact ⟨hp, pr, inv.mono (by omega), row⟩
    · rw [e]
      have a0 : accN σ σ (h 12 7 32) = 0 := accN_n rfl
      exact ⟨by rw [a0]; omega, by rw [a0]; rfl⟩
  unfold wX12_tells
  rw [e90, e84, ep.2.1, ep.2.2.1]
  refine ⟨by omega, fun c => silent (fun u => by have := u.1; omega), fun c => ⟨by omega, by omega, by omega, by omega, by omega, by omega, fun c2 => ⟨by omega, by omega, fun c3 => ?_, fun c3 => ?_⟩, fun c2 => silent (fun u => c2 u.2)⟩⟩
  · have tn : tellsNow π σ f := ⟨by omega, c2⟩
    have e : tellZ h π σ f = acceptA π σ (π 2 f) (σ 8 f 0) := by
      unfold tellZ
      rw [if_neg (fun u => c3 u.1)]
      unfold tellA; rw [if_pos tn]
    refine tells89_r (v := 1) x f0 f1 (Or.inr rfl) hW hw (fun h' f1' f2 f3 f4 => ?_)
    rw [if_pos rfl, ← e] at f3 f4
    exact k h' f1' (fun _ => f2) (fun u => absurd u.1 c3) f3 f4
  · have tn : tellsNow π σ f := ⟨by omega, c2⟩
    have b2 := bAnd1_all (bShr (h 12 7 30) (h 12 7 31))
    refine ⟨⟨by omega, fun _ => by omega⟩, fun t31 ht h33 e33 => ?_⟩
    have k33 : ∀ k, k ≠ 12 → h33 k = h k := fun k hk => by rw [e33, up_k hk]
    have j33 : ∀ j, j ≠ 31 → h33 12 7 j = h 12 7 j := fun j hj => by rw [e33, up_j hj]
    have fu : FrT h h33 := ⟨fun k k1 _ _ _ _ => k33 k k1, fun j _ _ j3 _ => j33 j j3⟩
    have x33 : RX h33 π K σ := ⟨hp, pr.ft fu, inv, by rw [k33 56 (by decide)]; exact row⟩
    have e : (if t31 = 1 then acceptA π σ (π 2 f) (σ 8 f 0) else σ) = tellZ h π σ f := by
      unfold tellZ tellA
      rw [if_pos tn]
      by_cases u : supp h f
      · rw [if_pos u]
        have := ht.2 (by have := u.2.1; omega)
        rw [if_neg (by have := this.1 u.2.2; omega)]
      · rw [if_neg u]
        have v : 4 < h 12 7 31 ∨ bAnd (bShr (h 12 7 30) (h 12 7 31)) 1 = 0 := by
          by_cases w : 4 < h 12 7 31
          · exact Or.inl w
          · by_cases w2 : bAnd (bShr (h 12 7 30) (h 12 7 31)) 1 = 0
            · exact Or.inr w2
            · exact absurd ⟨c3, by omega, w2⟩ u
        rw [if_pos]
        by_cases w : 4 < h 12 7 31
        · exact ht.1 w
        · exact (ht.2 w).2 (by rcases v with v | v; exact absurd v w; exact v)
    have hv : t31 = 0 ∨ t31 = 1 := by
      by_cases w : 4 < h 12 7 31
      · exact Or.inr (ht.1 w)
      · by_cases w2 : bAnd (bShr (h 12 7 30) (h 12 7 31)) 1 = 0
        · exact Or.inr ((ht.2 w).2 w2)
        · exact Or.inl ((ht.2 w).1 w2)
    refine tells89_r (v := t31) x33 f0 f1 hv (by rw [j33 32 (by decide)]; exact hW) (by rw [j33 33 (by decide)]; exact hw) (fun h' f1' f2 f3 f4 => ?_)
    rw [e] at f3 f4
    refine k h' (fu.tr f1') (fun u => ?_) (fun _ => by rw [f2, e33, up_eq]) f3 ?_
    · rcases u with u | u
      · exact absurd c3 u
      · exact absurd tn u
    · obtain ⟨g1, g2⟩ := f4
      rw [j33 32 (by decide), j33 33 (by decide)] at g1 g2
      rw [k33 61 (by decide)] at g2
      exact ⟨g1, g2⟩
/-! a unit -/
noncomputable def suppW (π : PL) (σ : ST) (z s n : Int) : Int := @ite Int (tellsNow π σ z ∧ n ≤ 4 ∧ bAnd (bShr s n) 1 ≠ 0) (Classical.propDecidable _) z (-1)
noncomputable def toldN (π : PL) (σ : ST) (z : Int) : Int := @ite Int (0 ≤ z ∧ z < π 0 1 ∧ tellsNow π σ z) (Classical.propDecidable _) 1 0
theorem tellsNow_0 {π : PL} {σ τ : ST} {f : Int} (e : τ 0 = σ 0) : tellsNow π τ f ↔ tellsNow π σ f := by unfold tellsNow; rw [e]
/-- who is chosen in the middle of a unit -/
noncomputable def chT (π : PL) (τ : ST) : Int := if τ 0 1 0 = 0 then chA π τ else -1
def ChR (h : HP) (π : PL) (τ : ST) : Prop := h 12 7 26 = chT π τ ∧ (chT π τ ≠ -1 → h 12 7 28 = chG π τ ∧ h 12 7 27 = τ 7 (chT π τ) 0)
/-- what units of time ask for -/
def UnH (h : HP) (π : PL) (u : Int) : Prop := (-1 ≤ h 12 7 29 ∧ h 12 7 29 < 100) ∧ (0 ≤ h 12 7 31 ∧ h 12 7 31 + u ≤ 1000000) ∧ (-1 ≤ h 12 7 32 ∧ h 12 7 32 < π 0 0) ∧ (0 ≤ h 12 7 33 ∧ h 12 7 33 + 8 * u ≤ 900000)
theorem RowR.tick {r r' : Int → Int} {π : PL} {σ : ST} (ht : treeOK π) (q : RowR r π σ) (hq : ∀ b, 0 ≤ b → b < π 0 0 → 0 ≤ σ 6 b 0 ∧ σ 6 b 0 ≤ 20) {b t : Int} (hb : b = if 0 < σ 0 1 0 then σ 0 1 0 - 1 else σ 0 1 0) (ht' : t = σ 0 0 0 + 1) (e : ∀ j, r' j = if j = 3084 then t else if j = 3085 then b else r j) : RowR r' π (tickA σ) := by
  have q1 : RowR (fun j => if j = 3085 then b else r j) π (up σ 0 1 0 b) := q.num ht hq (i := 1) (by omega) (by omega) (fun j => rfl)
  have q2 := q1.num (r' := r') ht (fun b b0 b1 => by rw [up_k (by decide)]; exact hq b b0 b1) (i := 0) (v := t) (by omega) (fun _ => by rw [up_i (by decide)]; omega) (fun j => by rw [e]; rfl)
  rw [hb, ht'] at q2
  exact q2
theorem unit_r {h : HP} {π : PL} {K : Int} {σ : ST} {P : HP → Prop} (x : RX h π K σ) (hT : σ 0 0 0 + 1 ≤ 2700) (hu : UnH h π 1)
    (k : ∀ h', FrU h h' → h' 12 7 31 = h 12 7 31 + toldN π σ (h 12 7 29) → RX h' π K (unitW π (suppW π σ (h 12 7 29) (h 12 7 30) (h 12 7 31)) σ) →
      WatR h h' σ (tellsW π (suppW π σ (h 12 7 29) (h 12 7 30) (h 12 7 31)) (π 0 1).toNat σ) → ChR h' π (tellsW π (suppW π σ (h 12 7 29) (h 12 7 30) (h 12 7 31)) (π 0 1).toNat σ) → P h') : wX12_unit 7 h P := by
  obtain ⟨hz, hs, hW, hw⟩ := hu
  have n12 := x.1.1.2.1
  have hp := x.1
  have n8 := hp.2.1
  have tr := x.2.2.1.1
  generalize ew : suppW π σ (h 12 7 29) (h 12 7 30) (h 12 7 31) = w at *
  unfold wX12_unit
  intro h1 e1
  have k1 : ∀ k, k ≠ 12 → h1 k = h k := fun k hk => by rw [e1, up_k hk]
  have j1 : ∀ j, j ≠ 26 → h1 12 7 j = h 12 7 j := fun j hj => by rw [e1, up_j hj]
  have fu1 : FrU h h1 := ⟨fun k k' _ _ _ _ => k1 k k', fun j j' _ _ => j1 j (by omega)⟩
  have x1 : RX h1 π K σ := ⟨hp, x.2.1.fu fu1, x.2.2.1, by rw [k1 56 (by decide)]; exact x.2.2.2⟩
  have loop : ∀ (Ko : HP → Prop), (∀ h', FrT h1 h' → h' 12 7 31 = h 12 7 31 + toldN π σ (h 12 7 29) → RX h' π (K + 8) (tellsW π w (π 0 1).toNat σ) → WatR h1 h' σ (tellsW π w (π 0 1).toNat σ) → Ko h') →
      ∀ (d m : Nat) (hh : HP), (π 0 1).toNat - m = d → m ≤ (π 0 1).toNat → FrT h1 hh → (h 12 7 29 < m → hh 12 7 31 = h 12 7 31 + toldN π σ (h 12 7 29)) → (¬ h 12 7 29 < m → hh 12 7 31 = h 12 7 31) → RX hh π (K + m) (tellsW π w m σ) → WatR h1 hh σ (tellsW π w m σ) → (0 ≤ accN σ (tellsW π w m σ) (h 12 7 32) ∧ accN σ (tellsW π w m σ) (h 12 7 32) ≤ m) → wX12_unit_7 7 Ko (d + 1) m hh := by
    intro Ko hKo d
    induction d with
    | zero =>
      intro m hh hd hm fr s1 s2 xx ww wb
      have em : m = (π 0 1).toNat := by omega
      subst em
      rw [wX12_unit_7, xx.2.1.1.2]
      refine ⟨by omega, by omega, fun _ => hKo hh fr ?_ ⟨xx.1, xx.2.1, xx.2.2.1.mono (by omega), xx.2.2.2⟩ ww, fun c => absurd (by omega) c⟩
      by_cases c : h 12 7 29 < ((π 0 1).toNat : Int)
      · exact s1 c
      · have : toldN π σ (h 12 7 29) = 0 := by unfold toldN; rw [if_neg (fun u => by have := u.2.1; omega)]
        rw [s2 c, this]; omega
    | succ d ih =>
      intro m hh hd hm fr s1 s2 xx ww wb
      have m1 : (m : Int) < π 0 1 := by omega
      have hd1 : (π 0 1).toNat - (m + 1) = d := by omega
      have hm1 : m + 1 ≤ (π 0 1).toNat := by omega
      have f29 : hh 12 7 29 = h 12 7 29 := by rw [fr.2 29 (by decide) (by decide) (by decide) (by decide), j1 29 (by decide)]
      have f30 : hh 12 7 30 = h 12 7 30 := by rw [fr.2 30 (by decide) (by decide) (by decide) (by decide), j1 30 (by decide)]
      have f32 : hh 12 7 32 = h 12 7 32 := by rw [fr.2 32 (by decide) (by decide) (by decide) (by decide), j1 32 (by decide)]
      have t01 : 0 ≤ toldN π σ (h 12 7 29) ∧ toldN π σ (h 12 7 29) ≤ 1 := by unfold toldN; split <;> omega
      have s3 : 0 ≤ hh 12 7 31 ∧ hh 12 7 31 ≤ 1000000 := by
        by_cases c : h 12 7 29 < m
        · rw [s1 c]; omega
        · rw [s2 c]; omega
      have w3 : 0 ≤ hh 12 7 33 ∧ hh 12 7 33 ≤ 1000000 := by
        have := ww.1
        rw [j1 33 (by decide), j1 32 (by decide)] at this
        omega
      have s0 : tellsW π w m σ 0 = σ 0 := tellsW_0 (Or.inl rfl) m
      have tn : tellsNow π (tellsW π w m σ) m ↔ tellsNow π σ m := tellsNow_0 s0
      have ez : tellZ hh π (tellsW π w m σ) m = tellsW π w (m + 1) σ := by
        show _ = tellW π w (tellsW π w m σ) m
        unfold tellZ tellW
        by_cases c : supp hh m
        · obtain ⟨c1, c2, c3⟩ := id c
          rw [f29] at c1
          have c4 : hh 12 7 31 = h 12 7 31 := s2 (by omega)
          rw [c4] at c2 c3
          rw [f30] at c3
          rw [if_pos c]
          by_cases t : tellsNow π σ m
          · have : w = m := by rw [← ew]; unfold suppW; rw [if_pos ⟨by rw [← c1]; exact t, c2, c3⟩, c1]
            rw [if_pos this.symm]
          · have : tellA π (tellsW π w m σ) m = tellsW π w m σ := by unfold tellA; rw [if_neg (fun u => t (tn.mp u))]
            split
            · rfl
            · rw [this]
        · rw [if_neg c, if_neg]
          intro u
          apply c
          have : (m : Int) = h 12 7 29 ∧ tellsNow π σ (h 12 7 29) ∧ h 12 7 31 ≤ 4 ∧ bAnd (bShr (h 12 7 30) (h 12 7 31)) 1 ≠ 0 := by
            rw [← ew] at u
            unfold suppW at u
            by_cases v : tellsNow π σ (h 12 7 29) ∧ h 12 7 31 ≤ 4 ∧ bAnd (bShr (h 12 7 30) (h 12 7 31)) 1 ≠ 0
            · rw [if_pos v] at u; exact ⟨u, v⟩
            · rw [if_neg v] at u; omega
          have c4 : hh 12 7 31 = h 12 7 31 := s2 (by omega)
          exact ⟨by rw [f29]; exact this.1, by rw [c4]; exact this.2.2.1, by rw [f30, c4]; exact this.2.2.2⟩
      rw [wX12_unit_7, xx.2.1.1.2]
      refine ⟨by omega, by omega, fun c => absurd c (by omega), fun _ => tells_r xx (by omega) m1 (by rw [f29]; exact hz) s3 (by rw [f32]; exact hW) w3 (fun h' g1 g2 g3 g4 g5 => ?_)⟩
      have zm := accZ_mono (h := hh) (π := π) (σ := tellsW π w m σ) (f := m) (W := h 12 7 32)
      rw [ez] at g4 g5 zm
      have ad := accN_add (σ := σ) (τ := tellsW π w m σ) (ρ := tellsW π w (m + 1) σ) (W := h 12 7 32)
      refine ih (m + 1) h' hd1 hm1 (fr.tr g1) (fun c => ?_) (fun c => ?_) ⟨g4.1, g4.2.1, g4.2.2.1.mono (by omega), g4.2.2.2⟩ (ww.tr g5 (by rw [fr.2 32 (by decide) (by decide) (by decide) (by decide)]) (by rw [s0]) (by rw [j1 32 (by decide)]; exact wb.1) (by rw [j1 32 (by decide)]; exact zm.1)) (by omega)
      · by_cases c2 : h 12 7 29 < m
        · rw [g2 (Or.inl (by rw [f29]; omega))]; exact s1 c2
        · have em : (m : Int) = h 12 7 29 := by omega
          by_cases t : tellsNow π σ m
          · rw [g3 ⟨by rw [f29]; exact em, tn.mpr t⟩, s2 c2]
            have : toldN π σ (h 12 7 29) = 1 := by unfold toldN; rw [if_pos ⟨by omega, by omega, by rw [← em]; exact t⟩]
            rw [this]
          · rw [g2 (Or.inr (fun u => t (tn.mp u))), s2 c2]
            have : toldN π σ (h 12 7 29) = 0 := by unfold toldN; rw [if_neg (fun u => t (by rw [em]; exact u.2.2))]
            rw [this]; omega
      · rw [g2 (Or.inl (by rw [f29]; omega))]; exact s2 (by omega)
  have start : RX h1 π (K + ((0 : Nat) : Int)) (tellsW π w 0 σ) := ⟨x1.1, x1.2.1, x1.2.2.1.mono (by omega), x1.2.2.2⟩
  have a0 : accN σ (tellsW π w 0 σ) (h 12 7 32) = 0 := accN_n rfl
  have a0' : accN σ (tellsW π w 0 σ) (h1 12 7 32) = 0 := accN_n rfl
  refine ⟨_, loop _ (fun h7 f7 s7 x7 w7 => ?_) _ 0 h1 rfl (by omega) (FrT.rf _) (fun c => ?_) (fun _ => j1 31 (by decide)) start ⟨by rw [a0']; omega, by rw [a0']; rfl⟩ (by omega)⟩
  · generalize eτ : tellsW π w (π 0 1).toNat σ = τ at *
    have t0 : τ 0 = σ 0 := by rw [← eτ]; exact tellsW_0 (Or.inl rfl) _
    have b := x7.2.2.1.2.1
    have e85 := x7.2.2.2.1.2.1
    have h26 : h7 12 7 26 = -1 := by rw [f7.2 26 (by decide) (by decide) (by decide) (by decide), e1, up_eq]
    have w7' : WatR h h7 σ τ := by
      obtain ⟨u1, u2⟩ := w7
      rw [j1 33 (by decide), j1 32 (by decide)] at u1 u2
      rw [k1 61 (by decide)] at u2
      exact ⟨u1, u2⟩
    -- the end of a unit
    have fin : ∀ (h' : HP) (ρ : ST), FrC h7 h' → RowR (h' 56 7) π ρ → (∀ b, 0 ≤ b → b < π 0 0 → 0 ≤ ρ 6 b 0 ∧ ρ 6 b 0 ≤ 20) → (0 ≤ ρ 0 1 0 ∧ ρ 0 1 0 ≤ 64) → (0 ≤ ρ 0 0 0 ∧ ρ 0 0 0 ≤ 2700) → ρ = midA π τ → ChR h' π τ → wX12_unit_43 7 P h' := by
      intro h' ρ fc row' hq hb ht eρ hc
      have done : ∀ h'', FrC h' h'' → h'' 12 = h' 12 → RowR (h'' 56 7) π (tickA ρ) → P h'' := by
        intro h'' g1 g2 g3
        have fr : FrU h h'' := ((fu1.tr f7.u).tr fc.u).tr g1.u
        have j : ∀ j, j ≠ 26 → j ≠ 27 → j ≠ 28 → h'' 12 7 j = h7 12 7 j := fun j a b c => by rw [g2]; exact fc.2 j a b c
        refine k h'' fr (by rw [j 31 (by decide) (by decide) (by decide)]; exact s7) ⟨hp, x.2.1.fu fr, ?_, ?_⟩ ⟨?_, ?_⟩ ⟨by rw [g2]; exact hc.1, fun c => by rw [g2]; exact hc.2 c⟩
        · exact unitW_inv hp x.2.2.1 hT
        · unfold unitW; rw [eτ, ← eρ]; exact g3
        · rw [j 33 (by decide) (by decide) (by decide)]; exact w7'.1
        · rw [g1.1 61 (by decide) (by decide), fc.1 61 (by decide) (by decide)]; exact w7'.2
      have r84 := row'.1.1
      have r85 := row'.1.2.1
      unfold wX12_unit_43 wX12_unit_66
      rw [r85, r84]
      refine ⟨by omega, fun c h12 e12 => ?_, fun c h13 e13 h12 e12 => ?_⟩
      · refine done h12 ⟨fun k _ k2 => by rw [e12, up_k k2], fun j _ _ _ => by rw [e12, up_k (by decide)]⟩ (by rw [e12, up_k (by decide)]) (row'.tick hp.1 hq (b := ρ 0 1 0) (t := σ 0 0 0 + 1) ?_ ?_ (fun j => ?_))
        · rw [if_neg (by omega)]
        · rw [eρ]; unfold midA; split
          · rw [(chooseA_0 hp.1).1, t0]
          · rw [t0]
        · rw [e12, up_ji]
          by_cases y : j = 3084
          · rw [if_pos y, if_pos y, eρ]; unfold midA; split
            · rw [(chooseA_0 hp.1).1, t0]
            · rw [t0]
          · rw [if_neg y, if_neg y]
            by_cases y2 : j = 3085
            · rw [if_pos y2, y2]; exact r85
            · rw [if_neg y2]
      · have y84 : h13 56 7 3084 = ρ 0 0 0 := by rw [e13, up_j (by decide)]; exact r84
        rw [y84] at e12
        refine done h12 ⟨fun k _ k2 => by rw [e12, up_k k2, e13, up_k k2], fun j _ _ _ => by rw [e12, up_k (by decide), e13, up_k (by decide)]⟩ (by rw [e12, up_k (by decide), e13, up_k (by decide)]) (row'.tick hp.1 hq (b := ρ 0 1 0 - 1) (t := ρ 0 0 0 + 1) ?_ rfl (fun j => ?_))
        · rw [if_pos (by omega)]
        · rw [e12, up_ji, e13, up_ji]
    rw [e85]
    refine ⟨by omega, fun c => ?_, fun c => ?_⟩
    · refine fin h7 τ (FrC.rf _) x7.2.2.2 (fun b b0 b1 => x7.2.2.1.qln b b0 b1) b x7.2.2.1.1 (by unfold midA; rw [if_neg c]) ⟨?_, fun u => ?_⟩
      · unfold chT; rw [if_neg c]; exact h26
      · exact absurd (by unfold chT; rw [if_neg c]) u
    · refine choose_r x7 (fun h14 g1 g2 g3 g4 => fin h14 (chooseA π τ) g1 g4 (fun b b0 b1 => ?_) ?_ ?_ (by unfold midA; rw [if_pos c]) ⟨?_, fun u => ?_⟩)
      · have := chA_rng hp.1 x7.2.2.1
        rw [chooseA_ch]
        split
        · exact x7.2.2.1.qln b b0 b1
        · rename_i y
          rcases this with v | v
          · exact absurd v y
          · have e6 := (sendA_all (σ := τ) (g := chG π τ) hp.1 v.1 v.2.1).2.2.1.1
            rw [e6]
            by_cases yb : b = chA π τ
            · rw [yb, popA_6]; have := x7.2.2.1.qln _ v.1 v.2.1; omega
            · rw [popA_6o yb]; exact x7.2.2.1.qln b b0 b1
      · have i := chooseA_inv hp.1 (K := K) x7.2.2.1 (by rw [t0]; exact hT) c
        have := i.2.1
        rw [tickA_b] at this
        have b2 : 0 ≤ chooseA π τ 0 1 0 ∧ chooseA π τ 0 1 0 ≤ 64 := by
          rw [chooseA_ch]
          split
          · exact b
          · rename_i y
            rcases chA_rng hp.1 x7.2.2.1 with v | v
            · exact absurd v y
            · have z := (x7.2.2.1.2.2.2.2.2.2.1 _ v.1 v.2.1).2.2.2.2.2.1 0 (Int.le_refl _) v.2.2.1
              have : sendA π τ (chA π τ) (chG π τ) 0 1 0 = τ 7 (chA π τ) 0 := by unfold sendA; rw [up_eq]
              rw [this]; omega
        exact b2
      · rw [(chooseA_0 hp.1).1]; exact x7.2.2.1.1
      · unfold chT; rw [if_pos c]; exact g2
      · have ec : chT π τ = chA π τ := by unfold chT; rw [if_pos c]
        rw [ec] at u ⊢; exact g3 u
  · have : toldN π σ (h 12 7 29) = 0 := by unfold toldN; rw [if_neg (fun u => by have := u.1; omega)]
    rw [j1 31 (by decide), this]; omega
