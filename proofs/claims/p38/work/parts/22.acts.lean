theorem putA_k {σ : ST} {s a b d : Int} {k : Nat} (h : k < 9) : putA σ s a b d k = σ k := by
  unfold putA; rw [upr_k (by omega), upr_k (by omega), up_k (by omega), up_k (by omega), up_k (by omega)]
theorem putA_o {σ : ST} {s a b d t : Int} {k : Nat} (h : t ≠ s) : putA σ s a b d k t = σ k t := by
  unfold putA; rw [upr_i h, upr_i h, up_i h, up_i h, up_i h]
theorem putA_s {σ : ST} {s a b d : Int} : putA σ s a b d 9 s 0 = a ∧ putA σ s a b d 10 s 0 = b ∧ putA σ s a b d 11 s 0 = d ∧ putA σ s a b d 12 s = (fun _ => 0) ∧ putA σ s a b d 13 s = (fun _ => 0) := by
  unfold putA
  refine ⟨?_, ?_, ?_, ?_, ?_⟩
  · rw [upr_k (by decide), upr_k (by decide), up_k (by decide), up_k (by decide), up_eq]
  · rw [upr_k (by decide), upr_k (by decide), up_k (by decide), up_eq]
  · rw [upr_k (by decide), upr_k (by decide), up_eq]
  · rw [upr_k (by decide), upr_eq]
  · rw [upr_eq]
/-- a state whose slot s alone is another, with nothing laid -/
theorem slot_inv {π : PL} {K : Int} {σ τ : ST} {s : Int} (inv : AInv π K σ) (e : ∀ k, k < 9 → τ k = σ k) (eo : ∀ k t, t ≠ s → τ k t = σ k t) (h12 : τ 12 s = fun _ => 0) (h13 : τ 13 s = fun _ => 0) (h11 : 0 ≤ τ 11 s 0 ∧ (0 < τ 11 s 0 → wellC (τ 9 s 0) (τ 10 s 0) (τ 11 s 0)))
    (hs : s % 3 = 1 → 0 < τ 11 s 0) (hg : s % 3 = 0 → 0 < τ 11 s 0 → kids π (s / 3) = 0) : AInv π K τ := by
  obtain ⟨a1, a2, a3, a4, a5, a6, a7, a8, a9, a10⟩ := inv
  unfold AInv classOK
  rw [e 0 (by decide), e 1 (by decide), e 2 (by decide), e 3 (by decide), e 4 (by decide), e 5 (by decide), e 6 (by decide), e 7 (by decide), e 8 (by decide)]
  refine ⟨a1, a2, a3, a4, a5, a6, fun c c0 c1 => ?_, a8, a9, fun t t0 t1 => ?_⟩
  · obtain ⟨b1, b2, b3, b4, b5, b6, b7, b8, b9⟩ := a7 c c0 c1
    refine ⟨b1, b2, b3, b4, b5, b6, ?_, fun q => ?_, ?_⟩
    · by_cases z : 3 * c + 1 = s
      · rw [z]; exact hs (by omega)
      · rw [eo 11 _ z]; exact b7
    · by_cases z : 3 * c = s
      · rw [z] at q
        have := hg (by omega) q
        rw [show s / 3 = c by omega] at this
        exact this
      · rw [eo 11 _ z] at q; exact b8 q
    · by_cases z : 3 * c + 1 = s
      · rw [z, h12]; exact b2.1
      · rw [eo 12 _ z]; exact b9
  · by_cases z : t = s
    · subst z
      unfold slotOK
      rw [h12, h13, e 0 (by decide)]
      refine ⟨h11, FOK.zero _, FOK.zero _, fun q n hn => ?_⟩
      have c0 : 0 ≤ cur τ t := by
        rw [cur_eq (e 1 (by decide)) (e 2 (by decide))]
        have b := (a7 (t / 3) (by omega) (by omega)).1
        unfold cur
        split <;> omega
      show (0 : Int) ≤ _ ∧ (0 : Int) ≤ _
      omega
    · have := a10 t t0 t1
      unfold slotOK at *
      rw [eo 11 t z, eo 9 t z, eo 10 t z, eo 12 t z, eo 13 t z, cur_eq (e 1 (by decide)) (e 2 (by decide)), e 0 (by decide)]
      exact this
theorem putA_inv {π : PL} {K : Int} {σ : ST} (inv : AInv π K σ) {c k a b d : Int} (hk : 0 ≤ k ∧ k ≤ 2) (w : wellC a b d) (hg : k = 0 → kids π c = 0) : AInv π K (putA σ (3 * c + k) a b d) := by
  obtain ⟨s1, s2, s3, s4, s5⟩ := putA_s (σ := σ) (s := 3 * c + k) (a := a) (b := b) (d := d)
  have w' := w
  unfold wellC at w'
  refine slot_inv (s := 3 * c + k) inv (fun k hk => putA_k hk) (fun k t ht => putA_o ht) s4 s5 ?_ ?_ ?_
  · rw [s1, s2, s3]; exact ⟨by omega, fun _ => w⟩
  · rw [s3]; intro _; omega
  · intro q _
    rw [show (3 * c + k) / 3 = c by omega]
    exact hg (by omega)
theorem changeA_inv {π : PL} {K : Int} {σ : ST} (inv : AInv π K σ) {c k a b d hl : Int} (c0 : 0 ≤ c) (c1 : c < π 0 0) (hk : 0 ≤ k ∧ k ≤ 2) (w : wellC a b d) (hg : k = 0 → kids π c = 0) : AInv π K (changeA π σ hl c k a b d) := by
  have i1 := putA_inv inv hk w hg
  have cls := inv.2.2.2.2.2.2.1 c c0 c1
  have tr := inv.1
  unfold changeA
  split
  · have hcur : cur (putA σ (3 * c + k) a b d) (3 * c + k) = if k = 0 then σ 2 c 0 else σ 1 c 0 := by
      rw [cur_eq (putA_k (by decide)) (putA_k (by decide))]
      unfold cur
      by_cases z : k = 0
      · rw [if_pos (by omega), if_pos z]; congr 1; omega
      · rw [if_neg (by omega), if_neg z]; congr 1; omega
    refine layA_inv i1 (by omega) (by omega) ?_ hcur (fun q => ?_) (fun q => ?_)
    · have := cls.2.1
      split <;> omega
    · rw [if_pos (by omega), putA_k (by decide), show (3 * c + k) / 3 = c by omega]; exact Int.le_refl _
    · rw [if_neg (by omega), putA_k (by decide)]; exact Int.le_refl _
  · exact i1
theorem changeA_6 {π : PL} {σ : ST} {hl c k a b d : Int} : ∀ j, j < 9 → changeA π σ hl c k a b d j = σ j := by
  intro j hj
  unfold changeA
  split
  · rw [layA_k (by omega) (by omega), putA_k hj]
  · exact putA_k hj
theorem change_c {h : HP} {L K c k a b d : Int} {π : PL} {σ : ST} {P : HP → Prop} (x : LX h L π K σ) (c0 : 0 ≤ c) (c1 : c < π 0 0) (hk : 0 ≤ k ∧ k ≤ 2) (w : wellC a b d) (hg : k = 0 → kids π c = 0)
    (kk : ∀ h', FrL L h h' → LineC h' L π (changeA π σ (hel π σ c) c k a b d) → P h') : wX6_changeCurve L c k a b d h P := by
  have n12 := x.1.1.2.1
  have cls := x.2.2.1.2.2.2.2.2.2.1 c c0 c1
  have cls1 := cls.1
  have cls2 := cls.2.1
  have tr := x.2.2.1.1
  have br := x.2.2.1.2.1
  have cr := x.2.2.1.2.2.1
  have hxB : xB = 18000000 := rfl
  unfold wX6_changeCurve
  rw [show c * 3 + k = 3 * c + k by omega]
  refine put_s (σ := σ) (by omega) w (fun h1 f1 o1 q1 => ?_)
  have l1 : LineD h1 L π (putA σ (3 * c + k) a b d) := x.2.2.2.1.slot f1 o1 q1 (fun k hk => putA_k hk) (fun k t ht _ => putA_o ht)
  have n29 : h1 29 L = h 29 L := f1 29 L (fun z => by have := z.2; unfold cuK at this; omega)
  have hc1 : HeldC h1 L π (hel π σ) := fun b hb => by rw [n29]; exact x.2.2.2.2 b hb
  obtain ⟨eh, eh0, eh1⟩ := x.held (c := c) (Or.inl ⟨c0, c1⟩)
  have e29 : h1 29 L c = hel π σ c := hc1 c (Or.inl ⟨c0, c1⟩)
  have hh : ∀ b, hel π (changeA π σ (hel π σ c) c k a b d) = hel π (changeA π σ (hel π σ c) c k a b d) := fun _ => rfl
  have h6 : ∀ g, hel π (changeA π σ (hel π σ c) c k a b d) g = hel π σ g := fun g => hel_same (changeA_6 6 (by decide))
  rw [e29]
  refine ⟨by omega, by omega, fun z => ?_, fun z => ⟨⟨by omega, fun _ => by omega⟩, fun t7 h7 => ⟨⟨by omega, fun _ => by omega, fun _ => by omega⟩, fun t12 h12 => ?_⟩⟩⟩
  · refine kk h1 f1.frL ⟨?_, fun b hb => by rw [h6]; exact hc1 b hb⟩
    unfold changeA
    rw [if_neg (by omega)]
    exact l1
  · have e7 : t7 = if k = 1 then σ 3 c 0 else σ 0 0 0 := by
      by_cases y : k = 1
      · rw [if_pos y, h7.2 y, (l1.2.1 c c0 c1).2.2.1, putA_k (by decide)]
      · rw [if_neg y, h7.1 y, l1.1.1, putA_k (by decide)]
    have e12 : t12 = if k = 0 then σ 2 c 0 else σ 1 c 0 := by
      by_cases y : k = 0
      · rw [if_pos y, h12.2 y, (l1.2.1 c c0 c1).2.1, putA_k (by decide)]
      · rw [if_neg y, h12.1 y, (l1.2.1 c c0 c1).1, putA_k (by decide)]
    have hcur : cur (putA σ (3 * c + k) a b d) (3 * c + k) = t12 := by
      rw [e12, cur_eq (putA_k (by decide)) (putA_k (by decide))]
      unfold cur
      by_cases y : k = 0
      · rw [if_pos (by omega), if_pos y]; congr 1; omega
      · rw [if_neg (by omega), if_neg y]; congr 1; omega
    have i1 := putA_inv x.2.2.1 (c := c) hk w hg
    refine lay_c (σ := putA σ (3 * c + k) a b d) (by omega) q1 (i1.2.2.2.2.2.2.2.2.2 _ (by omega) (by omega)) ?_ hcur ?_ (fun h2 f2 o2 q2 => ?_)
    · rw [e7]; split <;> omega
    · rw [e12]; split <;> omega
    · have l2 := l1.lay f2 o2 q2
      have m29 : h2 29 L = h1 29 L := f2 29 L (fun z => by have := z.2; unfold cuK at this; omega)
      refine kk h2 (f1.frL.tr f2.frL) ⟨?_, fun b hb => by rw [h6, m29]; exact hc1 b hb⟩
      unfold changeA
      rw [if_pos (by omega), ← e7, ← e12]
      exact l2
def dropQ (σ : ST) (l : Int) : ST := up σ 6 l 0 0
theorem dropQ_k {σ : ST} {l : Int} {k : Nat} (h : k ≠ 6) : dropQ σ l k = σ k := by unfold dropQ; rw [up_k h]
theorem dropQ_inv {π : PL} {K : Int} {σ : ST} (inv : AInv π K σ) (l : Int) : AInv π K (dropQ σ l) := by
  obtain ⟨a1, a2, a3, a4, a5, a6, a7, a8, a9, a10⟩ := inv
  have e : ∀ k, k ≠ 6 → dropQ σ l k = σ k := fun k k1 => dropQ_k k1
  unfold AInv classOK slotOK
  rw [e 0 (by decide), e 1 (by decide), e 2 (by decide), e 3 (by decide), e 4 (by decide), e 5 (by decide), e 7 (by decide), e 8 (by decide), e 9 (by decide), e 10 (by decide), e 11 (by decide), e 12 (by decide), e 13 (by decide)]
  refine ⟨a1, a2, a3, a4, a5, a6, fun b b0 b1 => ?_, a8, a9, fun t t0 t1 => ?_⟩
  · obtain ⟨b1, b2, b3, b4, b5, b6, b7⟩ := a7 b b0 b1
    by_cases y : b = l
    · subst y
      have : dropQ σ b 6 b 0 = 0 := by unfold dropQ; rw [up_eq]
      rw [this]
      exact ⟨b1, b2, b3, by omega, fun _ => rfl, fun i i0 i1 => by omega, b7⟩
    · have : dropQ σ l 6 b = σ 6 b := by unfold dropQ; rw [up_i y]
      rw [this]
      exact ⟨b1, b2, b3, b4, b5, b6, b7⟩
  · have := a10 t t0 t1
    unfold slotOK at this
    rw [cur_eq (e 1 (by decide)) (e 2 (by decide))]
    exact this
theorem LineD.emptied {h : HP} {L l : Int} {π : PL} {σ : ST} (q : LineD h L π σ) : LineD h L π (dropQ σ l) := by
  obtain ⟨q1, q2, q3, q4, q5⟩ := q
  unfold LineD QueC
  rw [dropQ_k (k := 0) (by decide), dropQ_k (k := 1) (by decide), dropQ_k (k := 2) (by decide), dropQ_k (k := 3) (by decide), dropQ_k (k := 4) (by decide), dropQ_k (k := 5) (by decide), dropQ_k (k := 7) (by decide), dropQ_k (k := 8) (by decide)]
  refine ⟨q1, q2, q3, q4, fun t t0 t1 => (q5 t t0 t1).sent (fun _ _ _ => rfl) (dropQ_k (by decide)) (dropQ_k (by decide)) (dropQ_k (by decide)) (dropQ_k (by decide)) (dropQ_k (by decide)) ?_⟩
  rw [cur_eq (dropQ_k (by decide)) (dropQ_k (by decide))]; exact Int.le_refl _
theorem empty_climb {L l z : Int} {π : PL} {σ : ST} {Ko : HP → Prop} (hp : PlanOK π) (l0 : 0 ≤ l) (l1 : l < π 0 0) {h0 : HP} (pc0 : PlanC h0 1 π) (ld0 : LineD h0 L π σ)
    (hK : ∀ h, FrL L h0 h → LineD h L π σ → HeldC h L π (wSn π σ z l 12) → Ko h) :
    ∀ (d : Nat) (a st : Int) (h : HP), 12 - st = d → 0 ≤ st → (a = 12 ∨ (0 ≤ a ∧ a < π 0 0 ∧ a + st ≤ 11)) → inCh π l a → FrL L h0 h → LineD h L π σ → HeldC h L π (wSn π σ z l a) → wX6_emptyQueue_12 L l z Ko (d + 1) a st h := by
  have n12 := hp.1.2.1
  intro d
  induction d with
  | zero =>
    intro a st h hd hst ha hla fr ld hc
    have ea : a = 12 := by omega
    subst ea
    rw [wX6_emptyQueue_12]
    exact ⟨by omega, fun _ => hK h fr ld hc, fun c => absurd (by omega) c⟩
  | succ d ih =>
    intro a st h hd hst ha hla fr ld hc
    rw [wX6_emptyQueue_12]
    refine ⟨by omega, fun c => absurd c (by omega), fun _ => ⟨by omega, fun c => ?_, fun c => ⟨by omega, by omega, fun h7 e7 => ⟨by omega, ?_⟩⟩⟩⟩
    · subst c
      exact hK h fr ld hc
    · have a0 : 0 ≤ a := by omega
      have a1 : a < π 0 0 := by omega
      have f7 : FrL L h0 h7 := by rw [e7]; exact fr.tr (FrL.up (by unfold lnK; omega))
      have e37 : h7 37 1 a = π 1 a := ((pc0.fr f7).2.1 a a0 a1).1
      have pa : π 1 a = 12 ∨ (0 ≤ π 1 a ∧ π 1 a < π 0 0 ∧ π 1 a + (st + 1) ≤ 11) := by
        rcases hp.1.2.2 a a0 a1 with q | q
        · exact Or.inl q
        · exact Or.inr ⟨q.1, by omega, by omega⟩
      have lpa : inCh π l (π 1 a) := by
        obtain ⟨j, hj⟩ := hla
        exact inCh_tr j hj ((inCh_iff c).mpr (Or.inr (inCh_rf _ _)))
      rw [e37]
      refine ih (π 1 a) (st + 1) h7 (by omega) (by omega) pa lpa f7 (by rw [e7]; exact ld.frH) (fun b hb => ?_)
      rw [e7, up_ji, wSn_step hp.1 a0 a1 hla]
      by_cases w : b = a
      · rw [if_pos w, if_pos w, hc a (Or.inl ⟨a0, a1⟩)]
      · rw [if_neg w, if_neg w, hc b hb]
theorem empty_c {h : HP} {L l K : Int} {π : PL} {σ : ST} {P : Int → HP → Prop} (x : LX h L π K σ) (l0 : 0 ≤ l) (l1 : l < π 0 0) (hk : kids π l = 0) (k : ∀ h', FrL L h h' → LineC h' L π (dropQ σ l) → P (σ 6 l 0) h') : wX6_emptyQueue L l h P := by
  have n12 := x.1.1.2.1
  obtain ⟨hp, pc, inv, ld, hc⟩ := id x
  have h29 : h 29 L l = σ 6 l 0 := by rw [hc l (Or.inl ⟨l0, l1⟩)]; exact hel_leaf hp.1 l0 l1 hk
  unfold wX6_emptyQueue
  rw [h29]
  refine ⟨by omega, _, empty_climb (h0 := h) (σ := σ) hp l0 l1 pc ld (fun h' fr ld' hc' h12 e12 => ?_) 12 l 0 h rfl (Int.le_refl _) (Or.inr ⟨l0, l1, by omega⟩) (inCh_rf _ _) (FrL.rf _ _) ld (fun b hb => ?_)⟩
  · refine k h12 (by rw [e12]; exact fr.tr (FrL.up (by unfold lnK; omega))) ⟨by rw [e12]; exact ld'.frH.emptied, fun b hb => ?_⟩
    have ho := hel_one (π := π) (σ := σ) (τ := dropQ σ l) (b := b) (l := l) (δ := - σ 6 l 0) l0 l1 (fun b _ _ hb => by unfold dropQ; rw [up_i hb]) (by unfold dropQ; rw [up_eq]; omega)
    rw [e12, up_ji]
    by_cases w : b = 12
    · subst w
      rw [if_pos rfl, hc' 12 (Or.inr rfl), wSn_n (fun u => u.2 (inCh_rf _ _)), ho.1 (inCh_all hp.1 l0 l1)]; omega
    · rw [if_neg w, hc' b hb]
      by_cases y : inCh π l b
      · rw [wSn_y ⟨y, fun u => w (inCh_12.mp u)⟩, ho.1 y]; omega
      · rw [wSn_n (fun u => y u.1), ho.2 y]
  · rw [hc b hb, wSn_n (fun u => u.2 u.1)]
theorem tog_all : ∀ s : Nat, s < 256 → ∀ f : Nat, f < 8 → 0 ≤ bXor s (bShl 1 f) ∧ bXor s (bShl 1 f) < 256 := by decide +kernel
theorem tog_rng {s f : Int} (s0 : 0 ≤ s) (s1 : s < 256) (f0 : 0 ≤ f) (f1 : f < 8) : 0 ≤ bXor s (bShl 1 f) ∧ bXor s (bShl 1 f) < 256 := by
  have := tog_all s.toNat (by omega) f.toNat (by omega)
  rw [Int.toNat_of_nonneg s0, Int.toNat_of_nonneg f0] at this
  exact this
def togA (σ : ST) (f : Int) : ST := up σ 0 5 0 (bXor (σ 0 5 0) (bShl 1 f))
theorem stp_inv {π : PL} {K v : Int} {σ : ST} (inv : AInv π K σ) (hv : 0 ≤ v ∧ v < 256) : AInv π K (up σ 0 5 0 v) := by
  obtain ⟨a1, a2, a3, a4, a5, a6, a7, a8, a9, a10⟩ := inv
  have e : ∀ k, k ≠ 0 → up σ 0 5 0 v k = σ k := fun k k1 => up_k k1
  have i : ∀ j, j ≠ 5 → up σ 0 5 0 v 0 j = σ 0 j := fun j hj => up_i hj
  unfold AInv classOK slotOK
  rw [up_eq, i 0 (by decide), i 1 (by decide), i 2 (by decide), i 3 (by decide), i 4 (by decide), e 1 (by decide), e 2 (by decide), e 3 (by decide), e 4 (by decide), e 5 (by decide), e 6 (by decide), e 7 (by decide), e 8 (by decide), e 9 (by decide), e 10 (by decide), e 11 (by decide), e 12 (by decide), e 13 (by decide)]
  refine ⟨a1, a2, a3, a4, a5, hv, a7, a8, a9, fun t t0 t1 => ?_⟩
  have := a10 t t0 t1
  unfold slotOK at this
  rw [cur_eq (e 1 (by decide)) (e 2 (by decide))]
  exact this
theorem togA_inv {π : PL} {K f : Int} {σ : ST} (inv : AInv π K σ) (f0 : 0 ≤ f) (f1 : f < 8) : AInv π K (togA σ f) := stp_inv inv (tog_rng inv.2.2.2.2.2.1.1 inv.2.2.2.2.2.1.2 f0 f1)
theorem tog_c {h : HP} {L f K : Int} {π : PL} {σ : ST} {P : HP → Prop} (x : LX h L π K σ) (k : ∀ h', FrL L h h' → LineC h' L π (togA σ f) → P h') : wX6_toggleFlow L f h P := by
  have ts : h 6 L 6 = σ 0 5 0 := x.2.2.2.1.1.2.2.2.2.2
  unfold wX6_toggleFlow
  intro h1 e1
  rw [ts] at e1
  refine k h1 (by rw [e1]; exact FrL.up (by unfold lnK; omega)) ?_
  rw [e1]
  exact x.2.2.2.num 5 (by omega)
def hb (H : Int) : Int := if H = 3 then 20 else 60
def HistC (h : HP) (H : Int) (π : PL) (n : Int) (Hs : Int → ST) : Prop := h 5 H 2 = n ∧ (0 ≤ n ∧ n ≤ 40) ∧ (0 ≤ h 5 H 1 ∧ h 5 H 1 < 40) ∧ ∀ i, 0 ≤ i → i < n → LineC h (hb H + (h 5 H 1 + i) % 40) π (Hs i)
def FrH (H : Int) (h h' : HP) : Prop := ∀ k i, ¬ (k = 5 ∧ i = H) → ¬ (lnK k ∧ hb H ≤ i ∧ i < hb H + 40) → h' k i = h k i
theorem FrH.rf (H : Int) (h : HP) : FrH H h h := fun _ _ _ _ => rfl
theorem FrH.tr {H : Int} {h h' h'' : HP} (a : FrH H h h') (b : FrH H h' h'') : FrH H h h'' := fun k i q r => by rw [b k i q r, a k i q r]
theorem FrH.up5 {H j v : Int} {h : HP} : FrH H h (up h 5 H j v) := by
  intro k i q _
  by_cases e : i = H
  · exact congrFun (up_k (fun z => q ⟨z, e⟩)) i
  · exact up_i e
theorem FrL.frH {H M : Int} {h h' : HP} (f : FrL M h h') (h0 : hb H ≤ M) (h1 : M < hb H + 40) : FrH H h h' := fun k i _ r => f k i (fun z => r ⟨z.2, by omega, by omega⟩)
theorem LineC.frH {h h' : HP} {H L : Int} {π : PL} {σ : ST} (q : LineC h L π σ) (f : FrH H h h') (hL : ¬ (hb H ≤ L ∧ L < hb H + 40)) : LineC h' L π σ :=
  q.congr (fun k hk => f k L (fun z => by unfold lnK at hk; omega) (fun z => hL z.2))
theorem PlanC.frH {h h' : HP} {H i : Int} {π : PL} (q : PlanC h i π) (f : FrH H h h') : PlanC h' i π := q.congr (fun k hk => f k i (fun z => by omega) (fun z => by have := z.1; unfold lnK at this; omega))
theorem HistC.fr {h h' : HP} {H n : Int} {π : PL} {Hs : Int → ST} (q : HistC h H π n Hs) (e5 : h' 5 H = h 5 H) (el : ∀ k i, lnK k → hb H ≤ i → i < hb H + 40 → h' k i = h k i) : HistC h' H π n Hs := by
  obtain ⟨a1, a2, a3, a4⟩ := q
  unfold HistC
  rw [e5]
  exact ⟨a1, a2, a3, fun i i0 i1 => (a4 i i0 i1).congr (fun k hk => el k _ hk (by omega) (by omega))⟩
theorem HistC.frL {h h' : HP} {H n L : Int} {π : PL} {Hs : Int → ST} (q : HistC h H π n Hs) (f : FrL L h h') (hL : ¬ (hb H ≤ L ∧ L < hb H + 40)) : HistC h' H π n Hs :=
  q.fr (f 5 H (fun z => by have := z.2; unfold lnK at this; omega)) (fun k i _ i0 i1 => f k i (fun z => hL (by omega)))
def keepN (n : Int) : Int := if n < 40 then n + 1 else 40
def keepH (n : Int) (Hs : Int → ST) (σ : ST) : Int → ST := if n < 40 then fun i => if i = n then σ else Hs i else fun i => if i = 39 then σ else Hs (i + 1)
theorem keep_c {h : HP} {L H n : Int} {π : PL} {σ : ST} {Hs : Int → ST} {P : HP → Prop} (hp : PlanOK π) (pc : PlanC h 1 π) (lc : LineC h L π σ) (hL : ¬ (hb H ≤ L ∧ L < hb H + 40)) (hh : HistC h H π n Hs) (k : ∀ h', FrH H h h' → HistC h' H π (keepN n) (keepH n Hs σ) → P h') : wX5_keep H L h P := by
  obtain ⟨a1, a2, a3, a4⟩ := id hh
  unfold wX5_keep
  rw [a1]
  have eb : (if H = 3 then 20 + (h 5 H 1 + n) % 40 else 60 + (h 5 H 1 + n) % 40) = hb H + (h 5 H 1 + n) % 40 := by unfold hb; split <;> rfl
  rw [eb]
  refine ⟨by omega, by omega, copyL_c (by omega) hp pc lc (fun h3 f3 l3 => ?_)⟩
  have e5 : h3 5 H = h 5 H := f3 5 H (fun z => by have := z.2; unfold lnK at this; omega)
  have fH : FrH H h h3 := f3.frH (by omega) (by omega)
  have a4' : ∀ i, 0 ≤ i → i < n → (h 5 H 1 + i) % 40 ≠ (h 5 H 1 + n) % 40 → LineC h3 (hb H + (h 5 H 1 + i) % 40) π (Hs i) := fun i i0 i1 ne => (a4 i i0 i1).fr f3 (by omega)
  rw [e5, a1]
  refine ⟨by omega, fun c => ⟨by omega, fun h7 e7 => ?_⟩, fun c h8 e8 => ?_⟩
  · have hn : n = 40 := by omega
    subst hn
    refine k h7 (by rw [e7]; exact fH.tr FrH.up5) ?_
    have e51 : h7 5 H 1 = (h 5 H 1 + 1) % 40 := by rw [e7, up_eq]
    have e52 : h7 5 H 2 = 40 := by rw [e7, up_j (by decide), e5, a1]
    unfold HistC keepN keepH
    rw [e51, e52, if_neg (by omega), if_neg (by omega)]
    refine ⟨rfl, by omega, by omega, fun i i0 i1 => ?_⟩
    have lk : ∀ k, lnK k → ∀ j, h7 k j = h3 k j := fun k hk j => by rw [e7]; exact congrFun (up_k (by unfold lnK at hk; omega)) j
    show LineC h7 _ π (if i = 39 then σ else Hs (i + 1))
    by_cases z : i = 39
    · rw [if_pos z]
      have : hb H + ((h 5 H 1 + 1) % 40 + i) % 40 = hb H + (h 5 H 1 + 40) % 40 := by omega
      rw [this]
      exact l3.congr (fun k hk => lk k hk _)
    · rw [if_neg z]
      have : hb H + ((h 5 H 1 + 1) % 40 + i) % 40 = hb H + (h 5 H 1 + (i + 1)) % 40 := by omega
      rw [this]
      exact (a4' (i + 1) (by omega) (by omega) (by omega)).congr (fun k hk => lk k hk _)
  · refine k h8 (by rw [e8]; exact fH.tr FrH.up5) ?_
    have e51 : h8 5 H 1 = h 5 H 1 := by rw [e8, up_j (by decide), e5]
    have e52 : h8 5 H 2 = n + 1 := by rw [e8, up_eq]
    unfold HistC keepN keepH
    rw [e51, e52, if_pos (by omega), if_pos (by omega)]
    refine ⟨rfl, by omega, a3, fun i i0 i1 => ?_⟩
    have lk : ∀ k, lnK k → ∀ j, h8 k j = h3 k j := fun k hk j => by rw [e8]; exact congrFun (up_k (by unfold lnK at hk; omega)) j
    show LineC h8 _ π (if i = n then σ else Hs i)
    by_cases z : i = n
    · rw [if_pos z, z]
      exact l3.congr (fun k hk => lk k hk _)
    · rw [if_neg z]
      exact (a4' i i0 (by omega) (by omega)).congr (fun k hk => lk k hk _)
theorem takeBack_c {h : HP} {L H n : Int} {π : PL} {Hs : Int → ST} {P : HP → Prop} (hp : PlanOK π) (pc : PlanC h 1 π) (hL : ¬ (hb H ≤ L ∧ L < hb H + 40)) (hh : HistC h H π n Hs) (hn : 0 < n)
    (k : ∀ h', (∀ k i, ¬ (k = 5 ∧ i = H) → ¬ (i = L ∧ lnK k) → h' k i = h k i) → HistC h' H π (n - 1) Hs → LineC h' L π (Hs (n - 1)) → P h') : wX5_takeBack H L h P := by
  obtain ⟨a1, a2, a3, a4⟩ := id hh
  unfold wX5_takeBack
  rw [a1]
  refine ⟨by omega, fun c => absurd c (by omega), fun _ h3 e3 => ?_⟩
  have e51 : h3 5 H 1 = h 5 H 1 := by rw [e3, up_j (by decide)]
  have e52 : h3 5 H 2 = n - 1 := by rw [e3, up_eq]
  have lk : ∀ k, lnK k → ∀ j, h3 k j = h k j := fun k hk j => by rw [e3]; exact congrFun (up_k (by unfold lnK at hk; omega)) j
  have pc3 : PlanC h3 1 π := pc.congr (fun k hk => by rw [e3]; exact congrFun (up_k (by omega)) 1)
  rw [e51, e52]
  have eb : (if H = 3 then 20 + (h 5 H 1 + (n - 1)) % 40 else 60 + (h 5 H 1 + (n - 1)) % 40) = hb H + (h 5 H 1 + (n - 1)) % 40 := by unfold hb; split <;> rfl
  rw [eb]
  have a4' : ∀ i, 0 ≤ i → i < n → LineC h3 (hb H + (h 5 H 1 + i) % 40) π (Hs i) := fun i i0 i1 => (a4 i i0 i1).congr (fun k hk => lk k hk _)
  refine ⟨by omega, by omega, copyL_c (by omega) hp pc3 (a4' (n - 1) (by omega) (by omega)) (fun h6 f6 l6 => ?_)⟩
  have e5 : h6 5 H = h3 5 H := f6 5 H (fun z => by have := z.2; unfold lnK at this; omega)
  refine k h6 (fun kk i q r => ?_) ?_ l6
  · rw [f6 kk i r, e3]
    by_cases z : kk = 5
    · subst z; exact up_i (fun y => q ⟨rfl, y⟩)
    · exact congrFun (up_k z) i
  · unfold HistC
    rw [e5, e51, e52]
    exact ⟨rfl, by omega, a3, fun i i0 i1 => (a4' i i0 (by omega)).fr f6 (by omega)⟩
theorem histCopy_c {h : HP} {o o1 n : Int} {π : PL} {Hs : Int → ST} {P : HP → Prop} (ho : (o = 3 ∧ o1 = 4) ∨ (o = 4 ∧ o1 = 3)) (hp : PlanOK π) (pc : PlanC h 1 π) (hh : HistC h o1 π n Hs) (k : ∀ h', FrH o h h' → HistC h' o π n Hs → P h') : wX5_copyFrom o o1 h P := by
  obtain ⟨a1, a2, a3, a4⟩ := id hh
  have ne : o ≠ o1 := by omega
  have hbo : (hb o = 20 ∧ hb o1 = 60) ∨ (hb o = 60 ∧ hb o1 = 20) := by
    rcases ho with ⟨q, r⟩ | ⟨q, r⟩
    · subst q; subst r; exact Or.inl ⟨rfl, rfl⟩
    · subst q; subst r; exact Or.inr ⟨rfl, rfl⟩
  unfold wX5_copyFrom
  intro h1 e1 h2 e2
  have s1 : h1 5 o1 = h 5 o1 := by rw [e1, up_i (fun z => ne z.symm)]
  have s2 : h2 5 o1 = h 5 o1 := by rw [e2, up_i (fun z => ne z.symm), s1]
  have t1 : h2 5 o 1 = h 5 o1 1 := by rw [e2, up_j (by decide), e1, up_eq]
  have t2 : h2 5 o 2 = n := by rw [e2, up_eq, s1, a1]
  have f2 : FrH o h h2 := by rw [e2, e1]; exact FrH.up5.tr FrH.up5
  have loop : ∀ (d : Nat) (i : Int) (h' : HP), n - i = d → 0 ≤ i → FrH o h h' → h' 5 o 1 = h 5 o1 1 → h' 5 o 2 = n → (∀ j, 0 ≤ j → j < i → LineC h' (hb o + (h 5 o1 1 + j) % 40) π (Hs j)) → wX5_copyFrom_18 o o1 (fun h11 => P h11) (d + 1) i h' := by
    intro d
    induction d with
    | zero =>
      intro i h' hd hi f q1 q2 ql
      rw [wX5_copyFrom_18, q2]
      refine ⟨by omega, by omega, fun _ => k h' f ?_, fun c => absurd (by omega) c⟩
      unfold HistC
      rw [q1, q2]
      exact ⟨rfl, a2, a3, fun j j0 j1 => ql j j0 (by omega)⟩
    | succ d ih =>
      intro i h' hd hi f q1 q2 ql
      rw [wX5_copyFrom_18, q1, q2]
      have eb : (if o = 3 then 20 + (h 5 o1 1 + i) % 40 else 60 + (h 5 o1 1 + i) % 40) = hb o + (h 5 o1 1 + i) % 40 := by unfold hb; split <;> rfl
      have eb1 : (if o1 = 3 then 20 + (h 5 o1 1 + i) % 40 else 60 + (h 5 o1 1 + i) % 40) = hb o1 + (h 5 o1 1 + i) % 40 := by unfold hb; split <;> rfl
      rw [eb, eb1]
      have src : LineC h' (hb o1 + (h 5 o1 1 + i) % 40) π (Hs i) := (a4 i hi (by omega)).frH f (by omega)
      refine ⟨by omega, by omega, fun c => absurd c (by omega), fun _ => ⟨by omega, by omega, by omega, copyL_c (by omega) hp (pc.frH f) src (fun h9 f9 l9 => ?_)⟩⟩
      have e5 : h9 5 o = h' 5 o := f9 5 o (fun z => by have := z.2; unfold lnK at this; omega)
      refine ih (i + 1) h9 (by omega) (by omega) (f.tr (f9.frH (by omega) (by omega))) (by rw [e5]; exact q1) (by rw [e5]; exact q2) (fun j j0 j1 => ?_)
      by_cases z : j = i
      · subst z; exact l9
      · exact (ql j j0 (by omega)).fr f9 (by omega)
  exact ⟨_, loop n.toNat 0 h2 (by omega) (Int.le_refl _) f2 t1 t2 (fun j j0 j1 => by omega)⟩
def NoteEx (h : HP) (N m : Int) (nt : PL) (i : Int) : Prop := ∃ j, 0 ≤ j ∧ j < m ∧ h 34 N i = nt 0 j ∧ h 35 N i = nt 1 j ∧ h 36 N i = nt 2 j
def NoteEx' (h : HP) (N m : Int) (nt : PL) (j : Int) : Prop := ∃ i, 0 ≤ i ∧ i < m ∧ h 34 N i = nt 0 j ∧ h 35 N i = nt 1 j ∧ h 36 N i = nt 2 j
def NotesC (h : HP) (N m : Int) (nt : PL) : Prop := h 7 N 0 = m ∧ (0 ≤ m ∧ m ≤ 8) ∧ (∀ i, 0 ≤ i → i < m → NoteEx h N m nt i) ∧ (∀ j, 0 ≤ j → j < m → NoteEx' h N m nt j) ∧ (∀ i j, 0 ≤ i → i < j → j < m → h 35 N i ≤ h 35 N j)
def noteOK (π : PL) (m : Int) (nt : PL) : Prop := ∀ j, 0 ≤ j → j < m → (0 ≤ nt 0 j ∧ nt 0 j < π 0 0) ∧ (0 ≤ nt 1 j ∧ nt 1 j ≤ 100) ∧ (0 ≤ nt 2 j ∧ nt 2 j ≤ 9999)
def ntK (k : Nat) : Prop := k = 7 ∨ k = 34 ∨ k = 35 ∨ k = 36
def FrN (N : Int) (h h' : HP) : Prop := ∀ k i, ¬ (ntK k ∧ i = N) → h' k i = h k i
theorem FrN.rf (N : Int) (h : HP) : FrN N h h := fun _ _ _ => rfl
theorem FrN.tr {N : Int} {h h' h'' : HP} (a : FrN N h h') (b : FrN N h' h'') : FrN N h h'' := fun k i q => by rw [b k i q, a k i q]
theorem FrN.upr {N : Int} {h : HP} {k : Nat} {g : Int → Int} (hk : ntK k) : FrN N h (upr h k N g) := by
  intro k' i q
  by_cases e : i = N
  · exact congrFun (upr_k (fun z => q ⟨by rw [z]; exact hk, e⟩)) i
  · exact upr_i e
theorem NotesC.congr {h h' : HP} {N m : Int} {nt : PL} (q : NotesC h N m nt) (e : ∀ k, ntK k → h' k N = h k N) : NotesC h' N m nt := by
  unfold NotesC NoteEx NoteEx' at *
  rw [e 7 (by unfold ntK; omega), e 34 (by unfold ntK; omega), e 35 (by unfold ntK; omega), e 36 (by unfold ntK; omega)]
  exact q
theorem noteCopy_c {h : HP} {o o1 m : Int} {nt : PL} {P : HP → Prop} (ho : o ≠ o1) (hn : NotesC h o1 m nt) (k : ∀ h', FrN o h h' → NotesC h' o m nt → P h') : wX7_copyFrom o o1 h P := by
  obtain ⟨a1, a2, a3, a4, a5⟩ := id hn
  have k7 : ntK 7 := by unfold ntK; omega
  have k34 : ntK 34 := by unfold ntK; omega
  have k35 : ntK 35 := by unfold ntK; omega
  have k36 : ntK 36 := by unfold ntK; omega
  unfold wX7_copyFrom
  intro h1 e1
  have q1 : h1 7 o 0 = m := by rw [e1, up_eq, a1]
  rw [q1]
  refine ⟨by omega, fun h2 e2 => ?_⟩
  have q2 : h2 7 o 0 = m := by rw [e2, upr_k (by decide), q1]
  rw [q2]
  refine ⟨by omega, fun h4 e4 => ?_⟩
  have q4 : h4 7 o 0 = m := by rw [e4, upr_k (by decide), q2]
  rw [q4]
  refine ⟨by omega, fun h6 e6 => ?_⟩
  obtain ⟨r1, r2, r3, r4⟩ := cp_row ho e2
  obtain ⟨s1, s2, s3, s4⟩ := cp_row ho e4
  obtain ⟨t1, t2, t3, t4⟩ := cp_row ho e6
  have v1 : ∀ k, h1 k o1 = h k o1 := fun k => by rw [e1, up_i (fun z => ho z.symm)]
  have g34 : ∀ j, 0 ≤ j → j < m → h6 34 o j = h 34 o1 j := fun j j0 j1 => by rw [t2 34 (by decide), s2 34 (by decide), r1 j j0 j1, v1]
  have g35 : ∀ j, 0 ≤ j → j < m → h6 35 o j = h 35 o1 j := fun j j0 j1 => by rw [t2 35 (by decide), s1 j j0 j1, r3, v1]
  have g36 : ∀ j, 0 ≤ j → j < m → h6 36 o j = h 36 o1 j := fun j j0 j1 => by rw [t1 j j0 j1, s3, r3, v1]
  refine k h6 ?_ ⟨by rw [t2 7 (by decide), q4], a2, fun i i0 i1 => ?_, fun j j0 j1 => ?_, fun i j i0 i1 i2 => ?_⟩
  · rw [e6, e4, e2, e1]
    exact (((FrN.upr k7).tr (FrN.upr k34)).tr (FrN.upr k35)).tr (FrN.upr k36)
  · unfold NoteEx
    rw [g34 i i0 i1, g35 i i0 i1, g36 i i0 i1]
    exact a3 i i0 i1
  · obtain ⟨i, i0, i1, e⟩ := a4 j j0 j1
    refine ⟨i, i0, i1, ?_⟩
    rw [g34 i i0 i1, g35 i i0 i1, g36 i i0 i1]
    exact e
  · rw [g35 i i0 (by omega), g35 j (by omega) i2]
    exact a5 i j i0 i1 i2
