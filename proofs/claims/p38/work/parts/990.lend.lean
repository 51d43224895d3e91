/-! the law's end, formula by formula -/
def Le5 (σ τ : ST) : Prop := ∀ c, σ 5 c 0 ≤ τ 5 c 0
theorem Le5.rf (σ : ST) : Le5 σ σ := fun _ => Int.le_refl _
theorem Le5.tr {σ τ ρ : ST} (a : Le5 σ τ) (b : Le5 τ ρ) : Le5 σ ρ := fun c => Int.le_trans (a c) (b c)
theorem Le5.eq {σ τ : ST} (e : τ 5 = σ 5) : Le5 σ τ := fun c => by rw [e]; exact Int.le_refl _
theorem unit_5 {π : PL} {σ : ST} (ht : treeOK π) (h0 : π 0 1 = 0) : unitA π σ 5 = σ 5 := by
  unfold unitA
  rw [tickA_k (by decide), tells0 h0]
  unfold midA
  split
  · unfold chooseA
    split
    · rename_i q
      have r := (bgA_rng σ (π 0 0).toNat).resolve_left q
      exact (sendA_all (σ := σ) (g := 1) ht (l := bgA σ (π 0 0).toNat) (by omega) (by omega)).2.1 5 (Or.inl rfl)
    · split
      · rfl
      · rename_i q
        obtain ⟨b, -, -⟩ := bs_leaf (σ := σ) ht q
        exact (sendA_all (σ := σ) (g := 0) ht b.1 b.2).2.1 5 (Or.inl rfl)
  · rfl
theorem goA_5 {π : PL} (ht : treeOK π) (h0 : π 0 1 = 0) : ∀ (n : Nat) {σ : ST}, goA π n σ 5 = σ 5 := by
  intro n
  induction n with
  | zero => intro σ; rfl
  | succ n ih => intro σ; show goA π n (unitA π σ) 5 = _; rw [ih, unit_5 ht h0]
theorem accept_5 {π : PL} {σ : ST} {l z : Int} : Le5 σ (acceptA π σ l z) := by
  unfold acceptA
  split
  · intro c
    by_cases q : c = l
    · subst q; rw [up_eq]; omega
    · rw [up_i q]; exact Int.le_refl _
  · exact Le5.eq (by rw [climbW_k (by decide) (by decide) (by decide) (by decide) 13, pushA_k (by decide) (by decide)])
theorem putA_5 {σ : ST} {s a b c : Int} : putA σ s a b c 5 = σ 5 := by
  unfold putA
  rw [upr_k (by decide), upr_k (by decide), up_k (by decide), up_k (by decide), up_k (by decide)]
theorem evA_5 {π : PL} {kd : Int} {σ : ST} {s : Int} (h0 : π 0 1 = 0) : Le5 σ (evA π kd σ s).1 := by
  unfold evA
  split
  · split
    · show Le5 σ (if kids π (btA (nxA s) % π 0 0) = 0 then acceptA π σ (btA (nxA s) % π 0 0) (btA (nxA (nxA s)) % 64 + 1) else σ)
      split
      · exact accept_5
      · exact Le5.rf σ
    · split
      · show Le5 σ (changeU π σ _ 1 _ 0 _)
        refine Le5.eq ?_
        unfold changeU changeA
        split
        · rw [layA_k (by decide) (by decide), putA_5]
        · exact putA_5
      · show Le5 σ (dropQ σ _)
        refine Le5.eq ?_
        unfold dropQ
        exact up_k (by decide)
  · split
    · omega
    · exact Le5.rf σ
theorem yrN_5 {π : PL} {σ : ST} {s : Int} (ht : treeOK π) (h0 : π 0 1 = 0) : ∀ n : Nat, Le5 σ (yrN π (σ, s) n).1.1 := by
  intro n
  induction n with
  | zero => exact Le5.rf σ
  | succ n ih =>
    show Le5 σ (yrA π (yrN π (σ, s) n).1).1
    unfold yrA
    exact (ih.tr (evA_5 h0)).tr (Le5.eq (goA_5 ht h0 10))
theorem lostA_mono {π : PL} {σ τ : ST} (h : Le5 σ τ) : lostA π σ ≤ lostA π τ := by
  have : ∀ m : Nat, sumN (fun c => σ 5 (c : Int) 0) m ≤ sumN (fun c => τ 5 (c : Int) 0) m := by
    intro m
    induction m with
    | zero => exact Int.le_refl _
    | succ m ih =>
      have := h (m : Int)
      show sumN (fun c => σ 5 (c : Int) 0) m + σ 5 (m : Int) 0 ≤ sumN (fun c => τ 5 (c : Int) 0) m + τ 5 (m : Int) 0
      omega
  exact this _
theorem lostA_b {π : PL} {K : Int} {σ : ST} (ht : treeOK π) (inv : AInv π K σ) (hK : K ≤ 100) : 0 ≤ lostA π σ ∧ lostA π σ ≤ 300000 := by
  have n12 := ht.2.1
  have t0 := inv.1
  have b := sumN_le (f := fun c => σ 5 (c : Int) 0) (b := 22000) (m := (π 0 0).toNat) (fun k hk => by
    have := (inv.2.2.2.2.2.2.1 k (by omega) (by omega)).2.2.1
    show σ 5 (k : Int) 0 ≤ 22000
    omega)
  have b' : lostA π σ ≤ 22000 * ((π 0 0).toNat : Int) := b
  exact ⟨sumN_nonneg (fun k hk => (inv.2.2.2.2.2.2.1 k (by omega) (by omega)).2.2.1.1), by omega⟩
theorem mark_b {π : PL} {K : Int} {σ : ST} (ht : treeOK π) (inv : AInv π K σ) (hT : σ 0 0 0 ≤ 2000) : inR (mark π σ) := by
  have n12 := ht.2.1
  have t0 := inv.1
  have c0 := inv.2.2.1
  have h12 := inv.hel_rng ht 12
  have b4 := inv.2.2.2.2.2.2.2.1 12 (Or.inr rfl)
  have b := sumN_le (f := fun c => if π 1 (c : Int) = 12 then σ 1 (c : Int) 0 else 0) (b := 2064) (m := (π 0 0).toNat) (fun k hk => by
    have := (cls_b inv hT (c := (k : Int)) ⟨by omega, by omega⟩).1
    show (if π 1 (k : Int) = 12 then σ 1 (k : Int) 0 else 0) ≤ 2064
    split <;> omega)
  have b' : sentA π σ ≤ 2064 * ((π 0 0).toNat : Int) := b
  have c : 0 ≤ sentA π σ := sumN_nonneg (fun k hk => by
    show 0 ≤ (if π 1 (k : Int) = 12 then σ 1 (k : Int) 0 else 0)
    split
    · exact (cls_b inv hT (c := (k : Int)) ⟨by omega, by omega⟩).1.1
    · decide)
  unfold inR mark
  omega
theorem image_o {K : Int} {π : PL} {s : SD} {im : IM} {t : TX} {h : HP} {P : HP → Prop} (a : St 1 K π s im t h) (kk : ∀ h', FrB 1 h h' → St 1 K π s (imgOf s t) t h' → P h') : wX11_image 0 (ob 1 h) (fun g => ∀ h1 : HP, h1 = pt 1 h g → P h1) := by
  refine image_c a.1 a.2 (fun g f ci h1 e1 => ?_)
  subst e1
  exact kk _ FrB.pt ⟨⟨a.1.1, a.1.2.1, Or.inr rfl, fun _ => a.1.2.1, a.1.2.2.2.2⟩, CI_pt ci⟩
theorem restore_o {K : Int} {π : PL} {s : SD} {im : IM} {t : TX} {h : HP} {P : Int → HP → Prop} (a : St 1 K π s im t h) (e : im.1 = 1) (kk : ∀ h', FrB 1 h h' → St 1 K π im.2.1 im (resT t im) h' → P 1 h') : wX11_restore 0 (ob 1 h) (fun x g => ∀ h1 : HP, h1 = pt 1 h g → P x h1) := by
  refine restore_c a.1 a.2 (fun g f _ ci h1 e1 => ?_) (fun z => absurd (e.symm.trans z) (by decide))
  subst e1
  exact kk _ FrB.pt ⟨⟨a.1.1, a.1.2.2.2.1 e, a.1.2.2.1, a.1.2.2.2.1, a.1.2.2.2.2⟩, CI_pt ci⟩
theorem undo_o {K : Int} {π : PL} {s : SD} {im : IM} {t : TX} {h : HP} {P : Int → HP → Prop} (a : St 1 K π s im t h) (hm : s.2.1 ≠ 0) (kk : ∀ h', FrB 1 h h' → St 1 K π (undoS s) im t h' → P (s.2.1 - 1) h') : wX11_undo 0 (ob 1 h) (fun x g => ∀ h1 : HP, h1 = pt 1 h g → P x h1) := by
  refine undoQ_c a.1 a.2 (fun g f _ ci h1 e1 => ?_) (fun z => absurd z hm)
  subst e1
  obtain ⟨a1, a2, a3, a4⟩ := a.1.2.1
  refine kk _ FrB.pt ⟨⟨a.1.1, ⟨a3 (s.2.1 - 1) (by omega) (by omega), ?_, fun i i0 i1 => ?_, a4⟩, a.1.2.2⟩, CI_pt ci⟩
  · show 0 ≤ s.2.1 - 1 ∧ s.2.1 - 1 ≤ 40
    omega
  · have i1' : i < s.2.1 - 1 := i1
    exact a3 i i0 (by omega)
theorem pt_ob (h : HP) : pt 1 h (ob 1 h) = h := by
  funext k
  rcases Nat.lt_or_ge k 100 with c | c
  · rw [pt_1 c]; rfl
  · rw [pt_1o c]
theorem undo_n {K : Int} {π : PL} {s : SD} {im : IM} {t : TX} {h : HP} {P : Int → HP → Prop} (a : St 1 K π s im t h) (hm : s.2.1 = 0) (kk : P (-1) h) : wX11_undo 0 (ob 1 h) (fun x g => ∀ h1 : HP, h1 = pt 1 h g → P x h1) := by
  refine undoQ_c a.1 a.2 (fun g f z => absurd hm z) (fun _ h1 e1 => ?_)
  rw [pt_ob] at e1
  subst e1
  exact kk
section LEN
variable {G : GG} {π : PL} {im : IM} {N : Nat} {pr : Nat → Int} {hs : Nat → Nat → Bool} {cu : Nat → Nat → Int × Int × Int}
theorem q_years {K sd n v : Int} {s : SD} {t : TX} {h0 h : HP} {P : Int → HP → Prop} (q : Q1 h0 K π s im t h) (hn : inR n) (hv : yearsV π s.1 sd n 1 = (0, v)) (kk : ∀ h', Q1 h0 K π s im t h' → P v h') : wX11_years 0 sd n 1 (ob 1 h) (fun x g => ∀ h1 : HP, h1 = pt 1 h g → P x h1) XF := by
  refine years_c (q.1.2.lx q.1.1) q.inv.2 hn (by unfold inR; omega) (fun g x f e h1 e1 => ?_) (fun g f e => ?_) (fun g f e => ?_)
  · rw [hv] at e
    have ev : v = x := congrArg Prod.snd e
    subst ev
    subst e1
    exact kk _ ⟨q.1.fq f, q.2.tr (FrB.h FrB.pt)⟩
  · rw [hv] at e
    exact absurd (show (0 : Int) = 1 from congrArg Prod.fst e) (by decide)
  · rw [hv] at e
    exact absurd (show (0 : Int) = 2 from congrArg Prod.fst e) (by decide)
theorem l545_s {K : Int} {t : TX} {K609 K601 : HP → Prop} : ∀ (d : Nat) {s : SD} {h : HP}, s.2.1 = (d : Int) → d ≤ 16 → (∀ i, 0 ≤ i → i < (d : Int) → h 208 0 i = mark π (s.2.2.1 i)) → (d = 0 → Bs s.1) → (0 < d → Bs (s.2.2.1 0)) → St 1 K π s im t h → (∀ h' s', St 1 K π s' im t h' → s'.2.1 = 0 → Bs s'.1 → K609 h') → wL_law_545 G K609 K601 (d + 1) ((d : Int) - 1) h := by
  intro d
  induction d with
  | zero =>
    intro s h e _ mk b0 b1 a kk
    rw [wL_law_545]
    exact ⟨by omega, fun _ => kk h s a e (b0 rfl), fun z => absurd (by omega) z⟩
  | succ d ih =>
    intro s h e hd mk b0 b1 a kk
    rw [wL_law_545]
    refine ⟨by omega, fun z => absurd z (by omega), fun _ => ?_⟩
    refine undo_o a (by omega) (fun h1 f1 a1 => ?_)
    have e1 : s.2.1 - 1 = ((d + 1 : Nat) : Int) - 1 := by omega
    refine ⟨by omega, by omega, fun z => absurd e1 z, fun _ => ?_⟩
    have q1 : Q1 h1 K π (undoS s) im t h1 := ⟨a1, H204.rf h1⟩
    refine q_count q1 (inr_s (by omega)) (v := (undoS s).1 0 0 0) rfl (fun h2 q2 => ?_)
    refine q_count q2 (inr_s (by omega)) (v := hel π (undoS s).1 12) rfl (fun h3 q3 => ?_)
    refine q_count q3 (inr_s (by omega)) (v := sentA π (undoS s).1) rfl (fun h4 q4 => ?_)
    refine q_count q4 (inr_s (by omega)) (v := (undoS s).1 4 12 0) rfl (fun h5 q5 => ?_)
    have mb := mark_b q1.pok.1 q1.inv.1 q1.inv.2
    have em : h5 (kd 8) 0 (((d + 1 : Nat) : Int) - 1) = mark π (undoS s).1 := by
      rw [kd_8, q5.2 208 (by decide), f1.h 208 (by decide), mk _ (by omega) (by omega)]
      show mark π (s.2.2.1 (((d + 1 : Nat) : Int) - 1)) = mark π (s.2.2.1 (s.2.1 - 1))
      rw [e1]
    rw [em]
    refine ⟨⟨by omega, by omega⟩, mb, mb, fun _ => ?_, fun z => absurd rfl z⟩
    have := ih (s := undoS s) (h := h5) (by show s.2.1 - 1 = (d : Int); omega) (by omega) (fun i i0 i1 => by
      rw [q5.2 208 (by decide), f1.h 208 (by decide)]
      exact mk i i0 (by omega)) (fun z => ?_) (fun _ => b1 (by omega)) q5.1 kk
    · rw [show ((d + 1 : Nat) : Int) - 1 + (-1) = (d : Int) - 1 by omega]
      exact this
    · show Bs (s.2.2.1 (s.2.1 - 1))
      rw [show s.2.1 - 1 = 0 by omega]
      exact b1 (by omega)
theorem end_l {P : Int → HP → Prop} {h : HP} (p : PL0 π N pr hs cu) (hlen : G.2.2.1 11 ≤ 1000) (l : LJ G π im N pr hs cu 0 0 0 h) (kk : ∀ h', P 1 h') : wL_lawEnd G P h 0 0 0 := by
  unfold wL_lawEnd
  refine ⟨17, l81_s p hlen 16 0 0 0 (by omega) (Int.le_refl _) l (fun h1 came m lj => ?_)⟩
  obtain ⟨K, s, t, hK, l1, hcm, ht60, hb0, hb1, hv⟩ := lj
  obtain ⟨inv, hT⟩ := l1.q1.inv
  have hp := l1.q1.pok
  have t0 := inv.1
  have em : s.2.1 = m := l1.2.2.2.2.2.1
  have mk := l1.2.2.2.2.2.2
  refine q_count l1.q1 (inr_s (by omega)) (v := s.1 0 0 0) rfl (fun h2 q2 => ?_)
  refine q_count q2 (inr_s (by omega)) (v := sentA π s.1) rfl (fun h3 q3 => ?_)
  refine image_o q3.1 (fun h4 f4 a4 => ?_)
  refine cell_s hlen (by omega) (fun sd _ => ?_)
  refine cell_s hlen (by omega) (fun x130 _ => ?_)
  refine most_s (by omega) (fun n n0 n1 => ?_)
  have f14 : H204 h1 h4 := q3.2.tr f4.h
  have q4 : Q1 h1 K π s (imgOf s t) t h4 := ⟨a4, f14⟩
  have hv1 : yearsV π s.1 sd n 1 = (0, lostA π (yrN π (s.1, sd) n.toNat).1.1 - lostA π s.1) := by
    unfold yearsV
    rw [if_pos (by decide), if_pos (by omega)]
    rfl
  have yi := (yrN_inv (s := sd) hp inv hT n.toNat (by omega)).1
  have lb := lostA_b hp.1 yi (by omega)
  have lb0 := lostA_b hp.1 inv (by omega)
  have lm := lostA_mono (π := π) (yrN_5 (σ := s.1) (s := sd) hp.1 p.2.1.2 n.toNat)
  refine q_years q4 (by unfold inR; omega) hv1 (fun h5 q5 => ?_)
  refine ⟨by omega, fun z => absurd z (by omega), fun _ => ?_⟩
  refine q_count q5 (inr_s (by omega)) (v := s.1 0 0 0) rfl (fun h6 q6 => ?_)
  refine ⟨by omega, by omega, fun z => absurd rfl z, fun _ => ?_⟩
  refine units_o q6.1 (by omega) (by omega) (fun h7 f7 a7 => ?_)
  refine ⟨by omega, by omega, fun z => absurd rfl z, fun _ => ?_⟩
  refine restore_o a7 rfl (fun h8 f8 a8 => ?_)
  refine ⟨by decide, fun z => absurd z (by decide), fun _ => ?_⟩
  have q8 : Q1 h1 K π s (imgOf s t) (resT t (imgOf s t)) h8 := ⟨a8, (q6.2.tr f7.h).tr f8.h⟩
  refine q_count q8 (inr_s (by omega)) (v := s.1 0 0 0) rfl (fun h9 q9 => ?_)
  refine ⟨by omega, by omega, fun z => absurd rfl z, fun _ => ?_⟩
  refine q_count q9 (inr_s (by omega)) (v := sentA π s.1) rfl (fun h10 q10 => ?_)
  have n12 := hp.1.2.1
  have sb := sumN_le (f := fun c => if π 1 (c : Int) = 12 then s.1 1 (c : Int) 0 else 0) (b := 2064) (m := (π 0 0).toNat) (fun k hk => by
    have := (cls_b inv hT (c := (k : Int)) ⟨by omega, by omega⟩).1
    show (if π 1 (k : Int) = 12 then s.1 1 (k : Int) 0 else 0) ≤ 2064
    split <;> omega)
  have sb' : sentA π s.1 ≤ 2064 * ((π 0 0).toNat : Int) := sb
  have sc : 0 ≤ sentA π s.1 := sumN_nonneg (fun k hk => by
    show 0 ≤ (if π 1 (k : Int) = 12 then s.1 1 (k : Int) 0 else 0)
    split
    · exact (cls_b inv hT (c := (k : Int)) ⟨by omega, by omega⟩).1.1
    · decide)
  refine ⟨by omega, by omega, fun z => absurd rfl z, fun _ => ?_⟩
  refine q_count q10 (inr_s (by omega)) (v := s.2.1) rfl (fun h11 q11 => ?_)
  rw [em]
  refine ⟨by omega, by omega, fun _ => ?_, fun z => absurd rfl z⟩
  obtain ⟨d, ed⟩ : ∃ d : Nat, m = (d : Int) := ⟨m.toNat, by omega⟩
  subst ed
  refine ⟨d + 1, l545_s (K := K) (im := imgOf s t) (t := resT t (imgOf s t)) (s := s) d em (by omega) (fun i i0 i1 => by rw [q11.2 208 (by decide)]; exact mk i i0 i1) (fun z => hb0 (by omega)) (fun z => hb1 (by omega)) q11.1 (fun h12 s' a12 e12 bs => ?_)⟩
  refine undo_n a12 e12 ⟨by decide, fun z => absurd rfl z, fun _ => ?_⟩
  have q12 : Q1 h12 K π s' (imgOf s t) (resT t (imgOf s t)) h12 := ⟨a12, H204.rf h12⟩
  obtain ⟨b1, b2, b3⟩ := bs
  refine q_count q12 (inr_s (by omega)) (v := s'.1 0 0 0) rfl (fun h13 q13 => ?_)
  rw [b1]
  refine ⟨by decide, fun z => absurd rfl z, fun _ => ?_⟩
  refine q_count q13 (inr_s (by omega)) (v := s'.1 0 2 0) rfl (fun h14 q14 => ?_)
  rw [b2]
  refine ⟨by decide, fun z => absurd rfl z, fun _ => ?_⟩
  refine q_count q14 (inr_s (by omega)) (v := s'.1 4 12 0) rfl (fun h15 q15 => ?_)
  rw [b3]
  exact ⟨by decide, fun z => absurd rfl z, fun _ => kk h15⟩
/-- at the start -/
theorem RI_st0 {δ : PL} {gg : Nat → Int → Int → Int} : RI δ (st0 δ gg) := by
  have z1 : ∀ c i, st0 δ gg 1 c i = 0 := fun _ _ => rfl
  have hz : ∀ f : Nat → Int, (∀ k, f k = 0) → ∀ m, sumN f m = 0 := by
    intro f hf m
    induction m with
    | zero => rfl
    | succ m ih => show sumN f m + f m = 0; rw [ih, hf m]; rfl
  have hi : ∀ c, inS δ (st0 δ gg) c = 0 := fun c => hz _ (fun k => by
    show (if δ 1 (k : Int) = c then st0 δ gg 1 (k : Int) 0 else 0) = 0
    split <;> rfl) _
  refine ⟨fun k _ _ => Int.le_refl _, fun c _ _ _ => ⟨(hi c).symm, rfl⟩, ⟨?_, ?_⟩, fun c _ _ _ => Int.le_refl _⟩
  · rw [← inS_12, hi]; exact Int.le_refl _
  · show (0 : Int) ≤ 63; decide
theorem T7_st0 {δ : PL} {gg : Nat → Int → Int → Int} : T7 δ (st0 δ gg) = 0 := by
  have hz : ∀ f : Nat → Int, (∀ k, f k = 0) → ∀ m, sumN f m = 0 := by
    intro f hf m
    induction m with
    | zero => rfl
    | succ m ih => show sumN f m + f m = 0; rw [ih, hf m]; rfl
  have a : hel δ (st0 δ gg) 12 = 0 := hz _ (fun k => by
    unfold helT
    split <;> rfl) _
  have b : lostA δ (st0 δ gg) = 0 := hz _ (fun k => rfl) _
  unfold T7
  rw [a, b]
  rfl
end LEN
