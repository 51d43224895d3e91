/-! isChosen, formula by formula -/
section CHO
variable {G : GG} {K : Int} {π : PL} {s : SD} {im : IM} {t : TX} {N : Nat} {pr : Nat → Int} {hs : Nat → Nat → Bool} {cu : Nat → Nat → Int × Int × Int} {h0 : HP}
theorem q_due {c b v : Int} {h : HP} {P : Int → HP → Prop} (q : Q1 h0 K π s im t h) (hc : 0 ≤ c ∧ c < π 0 0) (hb : inR b) (hv : dueV π s.1 c b = (0, v)) (kk : ∀ h', Q1 h0 K π s im t h' → P v h') : wX11_due 0 c b (ob 1 h) (fun x g => ∀ h1 : HP, h1 = pt 1 h g → P x h1) XF := by
  have n12 := q.1.n12
  refine due_c (q.1.2.lx q.1.1) (by unfold inR; omega) hb (fun g x f e h1 e1 => ?_) (fun g f e => ?_)
  · rw [hv] at e
    have ev : v = x := congrArg Prod.snd e
    subst ev
    subst e1
    exact kk _ ⟨q.1.fq f, q.2.tr (FrB.h FrB.pt)⟩
  · rw [hv] at e
    exact absurd (show (0 : Int) = 1 from congrArg Prod.fst e) (by decide)
theorem q_next {b v : Int} {h : HP} {P : Int → HP → Prop} (q : Q1 h0 K π s im t h) (hb : inR b) (hv : nextV π s.1 1 b = (0, v)) (kk : ∀ h', Q1 h0 K π s im t h' → P v h') : wX11_next 0 1 b (ob 1 h) (fun x g => ∀ h1 : HP, h1 = pt 1 h g → P x h1) XF := by
  refine next_c (q.1.2.lx q.1.1) q.inv.2 (by unfold inR; omega) hb (fun g x f e h1 e1 => ?_) (fun g f e => ?_) (fun g f e => ?_)
  · rw [hv] at e
    have ev : v = x := congrArg Prod.snd e
    subst ev
    subst e1
    exact kk _ ⟨q.1.fq f, q.2.tr (FrB.h FrB.pt)⟩
  · rw [hv] at e
    exact absurd (show (0 : Int) = 1 from congrArg Prod.fst e) (by decide)
  · rw [hv] at e
    exact absurd (show (0 : Int) = 2 from congrArg Prod.fst e) (by decide)
theorem dueV_0 {σ : ST} {c : Int} (hc : 0 ≤ c ∧ c < π 0 0) (hh : 0 < hel π σ c) (hg : 0 < σ 11 (3 * c) 0) : dueV π σ c 0 = (0, eligA σ c) := by
  unfold dueV
  rw [if_pos ⟨hc, by omega, hh, Or.inr hg⟩]; rfl
theorem dueV_1 {σ : ST} {c : Int} (hc : 0 ≤ c ∧ c < π 0 0) (hh : 0 < hel π σ c) (hg : 0 < σ 11 (3 * c) 0) : dueV π σ c 1 = (0, ddlA σ c) := by
  unfold dueV
  rw [if_pos ⟨hc, by omega, hh, Or.inr hg⟩]; rfl
theorem dueV_2 {σ : ST} {c : Int} (hc : 0 ≤ c ∧ c < π 0 0) (hh : 0 < hel π σ c) : dueV π σ c 2 = (0, fitA π σ c) := by
  unfold dueV
  rw [if_pos ⟨hc, by omega, hh, Or.inl rfl⟩]; rfl
theorem grant_b {σ : ST} {c : Int} (inv : AInv π K σ) (hT : σ 0 0 0 ≤ 2000) (hc : 0 ≤ c ∧ c < π 0 0) (h6 : 0 < σ 6 c 0) : (0 ≤ eligA σ c ∧ eligA σ c ≤ 300000) ∧ 0 ≤ ddlA σ c ∧ ddlA σ c ≤ 300000 := by
  have b := cls_b inv hT hc
  have z := (inv.2.2.2.2.2.2.1 c hc.1 hc.2).2.2.2.2.2.1 0 (Int.le_refl _) h6
  obtain ⟨-, o2, o3, o4⟩ := inv.2.2.2.2.2.2.2.2.2 (3 * c) (by omega) (by omega)
  rw [cur_0] at o2 o3 o4
  have e1 := o3 (σ 2 c 0) (Int.le_refl _)
  have e2 := o4 (by omega) (σ 2 c 0) (Int.le_refl _)
  have e3 := o2 (σ 2 c 0 + σ 7 c 0) (by omega)
  have e4 := o4 (by omega) (σ 2 c 0 + σ 7 c 0) (by omega)
  unfold eligA ddlA
  omega
theorem bgA_ge (σ : ST) (m : Nat) : -1 ≤ bgA σ m ∧ bgA σ m < m := by
  rcases bgA_rng σ m with r | r <;> omega
theorem slot0 (p : PN G h0 π N pr hs cu) {c : Nat} (hc : c < N) : (G.2.2.1 (400 + (20 + 3 * (c : Int) + 0).toNat) = 0 → hs c 0 = false) ∧ (¬ G.2.2.1 (400 + (20 + 3 * (c : Int) + 0).toNat) = 0 → hs c 0 = true) := off_c p.2.1 hc (k := 0) (by decide) (x := 20 + 3 * (c : Int) + 0) rfl
theorem c29_s {K103 : Int → HP → Prop} (p : PN G h0 π N pr hs cu) (cs : CuS s.1 N hs cu) : ∀ (d c : Nat) {h : HP}, c + d = N → Q1 h0 K π s im t h → (∀ h', Q1 h0 K π s im t h' → K103 (bgA s.1 N) h') → wL_isChosen_29 G K103 (d + 1) (bgA s.1 c) (c : Int) h := by
  have n6 := p.n6
  have en := p.2.2.1.1
  intro d
  induction d with
  | zero =>
    intro c h hcd q kk
    have e : c = N := by omega
    subst e
    rw [wL_isChosen_29, p.npi]
    exact ⟨by omega, by omega, fun _ => kk h q, fun z => absurd (Int.le_refl _) z⟩
  | succ d ih =>
    intro c h hcd q kk
    have hc : c < N := by omega
    have hc' : 0 ≤ (c : Int) ∧ (c : Int) < π 0 0 := ⟨by omega, by omega⟩
    obtain ⟨inv, hT⟩ := q.inv
    have ht := q.pok.1
    have b := cls_b inv hT hc'
    have t0 := inv.1
    have bg := bgA_ge s.1 c
    have keep : ∀ h', Q1 h0 K π s im t h' → ¬ (0 < s.1 6 (c : Int) 0 ∧ 0 < s.1 11 (3 * (c : Int)) 0 ∧ eligA s.1 (c : Int) ≤ s.1 0 0 0 ∧ (bgA s.1 c = -1 ∨ ddlA s.1 (c : Int) < ddlA s.1 (bgA s.1 c))) → wL_isChosen_97 G (bgA s.1 c) (c : Int) (fun y3 y4 hy => wL_isChosen_29 G K103 (d + 1) y3 y4 hy) h' := fun h' q' n => by
      unfold wL_isChosen_97
      have := ih (c + 1) (h := h') (by omega) q' kk
      have e : bgA s.1 (c + 1) = bgA s.1 c := by
        show (if 0 < s.1 6 (c : Int) 0 ∧ 0 < s.1 11 (3 * (c : Int)) 0 ∧ eligA s.1 (c : Int) ≤ s.1 0 0 0 ∧ (bgA s.1 c = -1 ∨ ddlA s.1 (c : Int) < ddlA s.1 (bgA s.1 c)) then (c : Int) else bgA s.1 c) = _
        rw [if_neg n]
      rw [e, show ((c + 1 : Nat) : Int) = (c : Int) + 1 by omega] at this
      exact this
    have take : ∀ h', Q1 h0 K π s im t h' → (0 < s.1 6 (c : Int) 0 ∧ 0 < s.1 11 (3 * (c : Int)) 0 ∧ eligA s.1 (c : Int) ≤ s.1 0 0 0 ∧ (bgA s.1 c = -1 ∨ ddlA s.1 (c : Int) < ddlA s.1 (bgA s.1 c))) → wL_isChosen_94 G (c : Int) (fun y3 y4 hy => wL_isChosen_29 G K103 (d + 1) y3 y4 hy) h' := fun h' q' n => by
      unfold wL_isChosen_94 wL_isChosen_97
      have := ih (c + 1) (h := h') (by omega) q' kk
      have e : bgA s.1 (c + 1) = (c : Int) := by
        show (if 0 < s.1 6 (c : Int) 0 ∧ 0 < s.1 11 (3 * (c : Int)) 0 ∧ eligA s.1 (c : Int) ≤ s.1 0 0 0 ∧ (bgA s.1 c = -1 ∨ ddlA s.1 (c : Int) < ddlA s.1 (bgA s.1 c)) then (c : Int) else bgA s.1 c) = _
        rw [if_pos n]
      rw [e, show ((c + 1 : Nat) : Int) = (c : Int) + 1 by omega] at this
      exact this
    rw [wL_isChosen_29, p.npi]
    refine ⟨by omega, by omega, fun z => absurd z (by omega), fun _ => ?_⟩
    refine q_of q hc' (inr_s (by omega)) (ofV_8 hc') (fun h1 q1 => ⟨by omega, fun z => keep h1 q1 (fun u => by omega), fun z => ?_⟩)
    have h6 : 0 < s.1 6 (c : Int) 0 := by omega
    have k0 : kids π (c : Int) = 0 := Classical.byContradiction (fun u => z ((inv.2.2.2.2.2.2.1 _ hc'.1 hc'.2).2.2.2.2.1 u))
    have hh : 0 < hel π s.1 (c : Int) := by rw [hel_leaf ht hc'.1 hc'.2 k0]; exact h6
    have cc := cs c 0 hc (by decide)
    have e30 : 3 * (c : Int) + ((0 : Nat) : Int) = 3 * (c : Int) := by omega
    rw [e30] at cc
    refine ⟨⟨by omega, by omega⟩, ⟨by omega, by omega⟩, by omega, fun w => keep h1 q1 (fun u => by have := cc.2 ((slot0 p hc).1 w); omega), fun w => ?_⟩
    have on := (slot0 p hc).2 w
    have wc := (p.1.2 c hc).2.2 0 (by decide) on
    unfold wq wellC at wc
    have hg : 0 < s.1 11 (3 * (c : Int)) 0 := by rw [(cc.1 on).2.2]; omega
    have gb := grant_b inv hT hc' h6
    refine q_due q1 hc' (inr_s (by omega)) (dueV_0 hc' hh hg) (fun h2 q2 => ?_)
    refine q_count q2 (inr_s (by omega)) (v := s.1 0 0 0) rfl (fun h3 q3 => ?_)
    refine ⟨by omega, by omega, fun el => ⟨by omega, fun bn => take h3 q3 ⟨h6, hg, el, Or.inl (by omega)⟩, fun bn => ?_⟩, fun el => keep h3 q3 (fun u => el u.2.2.1)⟩
    have br := (bgA_rng s.1 c).resolve_left (by omega)
    have hb' : 0 ≤ bgA s.1 c ∧ bgA s.1 c < π 0 0 := ⟨by omega, by omega⟩
    have kb : kids π (bgA s.1 c) = 0 := Classical.byContradiction (fun u => by have := (inv.2.2.2.2.2.2.1 _ hb'.1 hb'.2).2.2.2.2.1 u; omega)
    have hhb : 0 < hel π s.1 (bgA s.1 c) := by rw [hel_leaf ht hb'.1 hb'.2 kb]; exact br.2.2.1
    have gbb := grant_b inv hT hb' br.2.2.1
    refine q_due q3 hc' (inr_s (by omega)) (dueV_1 hc' hh hg) (fun h4 q4 => ?_)
    refine q_due q4 hb' (inr_s (by omega)) (dueV_1 hb' hhb br.2.2.2.1) (fun h5 q5 => ?_)
    exact ⟨by omega, by omega, fun w => keep h5 q5 (fun u => by rcases u.2.2.2 with v | v <;> omega), fun w => take h5 q5 ⟨h6, hg, el, Or.inr (by omega)⟩⟩
/-- who has the least service of those who fit -/
theorem lstI_none {σ : ST} {i : Int} : ∀ m : Nat, lstI π σ i m = -1 → ∀ k : Nat, k < m → ¬ (π 1 (k : Int) = i ∧ 0 < hel π σ (k : Int) ∧ fitA π σ (k : Int) ≤ σ 0 0 0) := by
  intro m
  induction m with
  | zero => intro _ k hk; omega
  | succ m ih =>
    intro h k hk n
    have h' : (if π 1 (m : Int) = i ∧ 0 < hel π σ (m : Int) ∧ fitA π σ (m : Int) ≤ σ 0 0 0 ∧ (lstI π σ i m = -1 ∨ σ 3 (m : Int) 0 < σ 3 (lstI π σ i m) 0) then (m : Int) else lstI π σ i m) = -1 := h
    split at h'
    · omega
    · rename_i w
      by_cases e : k = m
      · subst e
        exact w ⟨n.1, n.2.1, n.2.2, Or.inl h'⟩
      · exact ih h' k (by omega) n
theorem lstI_fit {σ : ST} {i : Int} : ∀ m : Nat, lstI π σ i m ≠ -1 → fitA π σ (lstI π σ i m) ≤ σ 0 0 0 ∧ ∀ k : Nat, k < m → (π 1 (k : Int) = i ∧ 0 < hel π σ (k : Int) ∧ fitA π σ (k : Int) ≤ σ 0 0 0) → σ 3 (lstI π σ i m) 0 < σ 3 (k : Int) 0 ∨ (σ 3 (lstI π σ i m) 0 = σ 3 (k : Int) 0 ∧ lstI π σ i m ≤ (k : Int)) := by
  intro m
  induction m with
  | zero => intro h; exact absurd rfl h
  | succ m ih =>
    intro h
    have e : lstI π σ i (m + 1) = (if π 1 (m : Int) = i ∧ 0 < hel π σ (m : Int) ∧ fitA π σ (m : Int) ≤ σ 0 0 0 ∧ (lstI π σ i m = -1 ∨ σ 3 (m : Int) 0 < σ 3 (lstI π σ i m) 0) then (m : Int) else lstI π σ i m) := rfl
    by_cases w : π 1 (m : Int) = i ∧ 0 < hel π σ (m : Int) ∧ fitA π σ (m : Int) ≤ σ 0 0 0 ∧ (lstI π σ i m = -1 ∨ σ 3 (m : Int) 0 < σ 3 (lstI π σ i m) 0)
    · rw [if_pos w] at e
      rw [e]
      refine ⟨w.2.2.1, fun k hk n => ?_⟩
      by_cases ek : k = m
      · subst ek; exact Or.inr ⟨rfl, Int.le_refl _⟩
      · rcases w.2.2.2 with u | u
        · exact absurd n (lstI_none m u k (by omega))
        · have hne : lstI π σ i m ≠ -1 := fun v => lstI_none m v k (by omega) n
          rcases (ih hne).2 k (by omega) n with v | v
          · exact Or.inl (by omega)
          · exact Or.inl (by omega)
    · rw [if_neg w] at e
      rw [e] at h ⊢
      obtain ⟨f1, f2⟩ := ih h
      have lr := (lstI_rng π σ i m).resolve_left h
      refine ⟨f1, fun k hk n => ?_⟩
      by_cases ek : k = m
      · subst ek
        rcases Int.lt_or_le (σ 3 (k : Int) 0) (σ 3 (lstI π σ i k) 0) with u | u
        · exact absurd ⟨n.1, n.2.1, n.2.2, Or.inr u⟩ w
        · rcases Int.lt_or_eq_of_le u with v | v
          · exact Or.inl v
          · exact Or.inr ⟨v, by omega⟩
      · exact f2 k (by omega) n
/-- a chain of the least -/
def Lst (π : PL) (σ : ST) (c : Int) : Prop := (0 ≤ c ∧ c < π 0 0) ∧ ∀ b, 0 ≤ b → b < π 0 0 → inCh π c b → leastIn π σ (π 1 b) = b
theorem lst_one {σ : ST} {c : Int} (hc : leastIn π σ c ≠ -1) (up : ∀ b, 0 ≤ b → b < π 0 0 → inCh π c b → leastIn π σ (π 1 b) = b) (n12 : π 0 0 ≤ 12) : Lst π σ (leastIn π σ c) := by
  have r := (lstI_rng π σ c (π 0 0).toNat).resolve_left hc
  have b : 0 ≤ leastIn π σ c ∧ leastIn π σ c < π 0 0 := by unfold leastIn; omega
  have e1 : π 1 (leastIn π σ c) = c := r.2.2.1
  refine ⟨b, fun x x0 x1 hx => ?_⟩
  rcases (inCh_iff (by omega)).mp hx with w | w
  · rw [← w, e1]
  · rw [e1] at w; exact up x x0 x1 w
theorem bsF_lst {σ : ST} (n12 : π 0 0 ≤ 12) : ∀ (f : Nat) (c : Int), (c = -1 ∨ Lst π σ c) → (bsF π σ f c = -1 ∨ Lst π σ (bsF π σ f c)) := by
  intro f
  induction f with
  | zero => intro c h; exact h
  | succ f ih =>
    intro c h
    show (if c = -1 ∨ kids π c = 0 then c else bsF π σ f (leastIn π σ c)) = -1 ∨ Lst π σ (if c = -1 ∨ kids π c = 0 then c else bsF π σ f (leastIn π σ c))
    split
    · exact h
    · rename_i w
      apply ih
      by_cases e : leastIn π σ c = -1
      · exact Or.inl e
      · exact Or.inr (lst_one e (h.resolve_left (fun u => w (Or.inl u))).2 n12)
theorem bs_lst {σ : ST} (n12 : π 0 0 ≤ 12) (h : byShareA π σ ≠ -1) : Lst π σ (byShareA π σ) := by
  refine (bsF_lst (σ := σ) n12 13 (leastIn π σ 12) ?_).resolve_left h
  by_cases e : leastIn π σ 12 = -1
  · exact Or.inl e
  · refine Or.inr (lst_one e (fun b b0 b1 w => ?_) n12)
    rw [inCh_12] at w
    omega
theorem fit_b {h : HP} {c : Int} (q : Q1 h0 K π s im t h) (hc : 0 ≤ c ∧ c < π 0 0) : 0 ≤ fitA π s.1 c ∧ fitA π s.1 c ≤ 310000 := (q.1.2.lx q.1.1).fit hc.1 hc.2
theorem c181_s {a : Nat} {K274 K266 : HP → Prop} (p : PN G h0 π N pr hs cu) (ha : a < N) (hl : leastIn π s.1 (π 1 (a : Int)) = (a : Int)) : ∀ (d k : Nat) {h : HP}, k + d = N → Q1 h0 K π s im t h → (∀ h', Q1 h0 K π s im t h' → K274 h') → wL_isChosen_181 G (a : Int) K274 K266 (d + 1) (k : Int) h := by
  have n6 := p.n6
  have en := p.2.2.1.1
  have eN : (π 0 0).toNat = N := by omega
  intro d
  induction d with
  | zero =>
    intro k h hk q kk
    rw [wL_isChosen_181, p.npi]
    exact ⟨by omega, by omega, fun _ => kk h q, fun z => absurd (by omega) z⟩
  | succ d ih =>
    intro k h hk q kk
    have hkN : k < N := by omega
    have hk' : 0 ≤ (k : Int) ∧ (k : Int) < π 0 0 := ⟨by omega, by omega⟩
    have ha' : 0 ≤ (a : Int) ∧ (a : Int) < π 0 0 := ⟨by omega, by omega⟩
    obtain ⟨inv, hT⟩ := q.inv
    have bk := cls_b inv hT hk'
    have ba := cls_b inv hT ha'
    have t0 := inv.1
    have rk := p.rcb hkN
    have ra := p.rcb ha
    have next : ∀ h', Q1 h0 K π s im t h' → wL_isChosen_268 G (a : Int) (k : Int) (fun y6 hy => wL_isChosen_181 G (a : Int) K274 K266 (d + 1) y6 hy) h' := fun h' q' => by
      unfold wL_isChosen_268
      have := ih (k + 1) (h := h') (by omega) q' kk
      rw [show ((k + 1 : Nat) : Int) = (k : Int) + 1 by omega] at this
      exact this
    rw [wL_isChosen_181, p.npi, p.par q.2 hkN, p.par q.2 ha]
    refine ⟨by omega, by omega, fun z => absurd z (by omega), fun _ => ⟨⟨by omega, by omega⟩, ⟨by omega, by omega⟩, by omega, by omega, fun _ => next h q, fun same => ?_⟩⟩
    have same' : π 1 (k : Int) = π 1 (a : Int) := by
      rw [p.2.2.2 k hkN, p.2.2.2 a ha]
      unfold rc at same
      rcases p.rg hkN with u | u <;> rcases p.rg ha with v | v
      · rw [u, v]
      · rw [if_pos u, if_neg (by omega)] at same; omega
      · rw [if_neg (by omega), if_pos v] at same; omega
      · rw [if_neg (by omega), if_neg (by omega)] at same; exact same
    refine q_of q hk' (inr_s (by omega)) (ofV_2 hk') (fun h1 q1 => ?_)
    refine ⟨by split <;> omega, fun _ => next h1 q1, fun act => ?_⟩
    have hh : 0 < hel π s.1 (k : Int) := by
      rcases Int.lt_or_le 0 (hel π s.1 (k : Int)) with u | u
      · exact u
      · rw [if_neg (by omega)] at act; omega
    have fk := fit_b q hk'
    refine q_due q1 hk' (inr_s (by omega)) (dueV_2 hk' hh) (fun h2 q2 => ?_)
    refine q_count q2 (inr_s (by omega)) (v := s.1 0 0 0) rfl (fun h3 q3 => ?_)
    refine ⟨by omega, by omega, fun _ => next h3 q3, fun fit => ?_⟩
    have lf := (lstI_fit (π := π) (σ := s.1) (i := π 1 (a : Int)) (π 0 0).toNat (by
      have : leastIn π s.1 (π 1 (a : Int)) ≠ -1 := by rw [hl]; omega
      exact this)).2 k (by omega) ⟨same', hh, by omega⟩
    have lf' : s.1 3 (leastIn π s.1 (π 1 (a : Int))) 0 < s.1 3 (k : Int) 0 ∨ (s.1 3 (leastIn π s.1 (π 1 (a : Int))) 0 = s.1 3 (k : Int) 0 ∧ leastIn π s.1 (π 1 (a : Int)) ≤ (k : Int)) := lf
    rw [hl] at lf'
    refine q_of q3 hk' (inr_s (by omega)) (ofV_5 hk') (fun h4 q4 => ?_)
    refine q_of q4 ha' (inr_s (by omega)) (ofV_5 ha') (fun h5 q5 => ?_)
    refine ⟨by omega, by omega, fun z => by omega, fun _ => ?_⟩
    refine q_of q5 hk' (inr_s (by omega)) (ofV_5 hk') (fun h6 q6 => ?_)
    refine q_of q6 ha' (inr_s (by omega)) (ofV_5 ha') (fun h7 q7 => ?_)
    exact ⟨by omega, by omega, fun _ => next h7 q7, fun e => ⟨by omega, by omega, fun _ => next h7 q7, fun z => by omega⟩⟩
theorem c156_s {K283 K176 K266 : HP → Prop} (p : PN G h0 π N pr hs cu) : ∀ (d : Nat) (a : Int) {h : HP}, -1 ≤ a → a < d → (a = -1 ∨ Lst π s.1 a) → Q1 h0 K π s im t h → (∀ h', Q1 h0 K π s im t h' → K283 h') → wL_isChosen_156 G K283 K176 K266 (d + 1) a h := by
  have n6 := p.n6
  have en := p.2.2.1.1
  intro d
  induction d with
  | zero =>
    intro a h a0 a1 _ q kk
    rw [wL_isChosen_156]
    exact ⟨by omega, fun _ => kk h q, fun z => absurd (by omega) z⟩
  | succ d ih =>
    intro a h a0 a1 la q kk
    by_cases neg : a < 0
    · rw [wL_isChosen_156]
      exact ⟨by omega, fun _ => kk h q, fun z => absurd neg z⟩
    · obtain ⟨ha', lc⟩ := la.resolve_left (by omega)
      obtain ⟨i, ei⟩ : ∃ i : Nat, a = (i : Int) := ⟨a.toNat, by omega⟩
      subst ei
      have hi : i < N := by omega
      obtain ⟨inv, hT⟩ := q.inv
      have t0 := inv.1
      have hl := lc (i : Int) ha'.1 ha'.2 (inCh_rf _ _)
      have hne : lstI π s.1 (π 1 (i : Int)) (π 0 0).toNat ≠ -1 := by
        have : leastIn π s.1 (π 1 (i : Int)) ≠ -1 := by rw [hl]; omega
        exact this
      have lf := (lstI_fit (π := π) (σ := s.1) (i := π 1 (i : Int)) (π 0 0).toNat hne).1
      have lf' : fitA π s.1 (leastIn π s.1 (π 1 (i : Int))) ≤ s.1 0 0 0 := lf
      rw [hl] at lf'
      have lr := ((lstI_rng π s.1 (π 1 (i : Int)) (π 0 0).toNat).resolve_left hne).2.2.2
      have lr' : 0 < hel π s.1 (leastIn π s.1 (π 1 (i : Int))) := lr
      rw [hl] at lr'
      have fb := fit_b q ha'
      have rb := p.rcb hi
      have rg := p.rg hi
      rw [wL_isChosen_156]
      refine ⟨by omega, fun z => absurd z neg, fun _ => ?_⟩
      refine q_due q ha' (inr_s (by omega)) (dueV_2 ha' lr') (fun h1 q1 => ?_)
      refine q_count q1 (inr_s (by omega)) (v := s.1 0 0 0) rfl (fun h2 q2 => ?_)
      refine ⟨by omega, by omega, fun _ => ⟨N + 1, ?_⟩, fun z => absurd lf' z⟩
      refine c181_s p hi hl N 0 (by omega) q2 (fun h3 q3 => ⟨⟨by omega, by rw [p.npi]; omega⟩, ?_⟩)
      rw [p.par q3.2 hi]
      refine ih (rc (pr i)) rb.1 ?_ ?_ q3 kk
      · unfold rc
        rcases rg with u | u
        · rw [if_pos u]; omega
        · rw [if_neg (by omega)]; omega
      · unfold rc
        rcases rg with u | u
        · rw [if_pos u]; exact Or.inl rfl
        · rw [if_neg (by omega)]
          refine Or.inr ⟨by omega, fun b b0 b1 w => lc b b0 b1 ((inCh_iff (by omega)).mpr (Or.inr ?_))⟩
          rw [p.2.2.2 i hi]
          exact w
/-- a first choice that is told to be now, is made in this unit -/
theorem run_ge (hp : PlanOK π) : ∀ (d : Nat) {σ : ST} {left : Int}, AInv π K σ → σ 0 0 0 + d ≤ 2700 → runA π (nxS 1) (fun _ => -1) d σ left = -1 ∨ σ 0 0 0 ≤ runA π (nxS 1) (fun _ => -1) d σ left := by
  intro d
  induction d with
  | zero => intro σ left _ _; exact Or.inl rfl
  | succ d ih =>
    intro σ left inv hT
    have t := (unitA_time hp inv).1
    by_cases c : left - (unitA π σ 0 2 0 - σ 0 2 0) = 0
    · have st : nxS 1 left σ (unitA π σ) = Sum.inr (unitA π σ 0 0 0 - 1) := by unfold nxS; rw [if_pos c]; rfl
      rw [runA_r st]
      exact Or.inr (by omega)
    · have st : nxS 1 left σ (unitA π σ) = Sum.inl (left - (unitA π σ 0 2 0 - σ 0 2 0)) := by unfold nxS; rw [if_neg c]
      rw [runA_l st]
      rcases ih (left := left - (unitA π σ 0 2 0 - σ 0 2 0)) (unitA_inv hp inv (by omega)) (by omega) with u | u
      · exact Or.inl u
      · exact Or.inr (by omega)
theorem now_one {σ : ST} (hp : PlanOK π) (inv : AInv π K σ) (hT : σ 0 0 0 ≤ 2000) (h : runA π (nxS 1) (fun _ => -1) 400 σ 1 = σ 0 0 0) : unitA π σ 0 2 0 = σ 0 2 0 + 1 := by
  have t := (unitA_time hp inv).1
  have t0 := inv.1
  by_cases c : 1 - (unitA π σ 0 2 0 - σ 0 2 0) = 0
  · omega
  · exfalso
    have st : nxS 1 1 σ (unitA π σ) = Sum.inl (1 - (unitA π σ 0 2 0 - σ 0 2 0)) := by unfold nxS; rw [if_neg c]
    rw [show (400 : Nat) = 399 + 1 from rfl, runA_l st] at h
    rcases run_ge (K := K) hp 399 (σ := unitA π σ) (left := 1 - (unitA π σ 0 2 0 - σ 0 2 0)) (unitA_inv hp inv (by omega)) (by omega) with u | u <;> omega
theorem now_next {σ : ST} {a : Int} (h : unitA π σ 0 2 0 = σ 0 2 0 + 1) : runA π (nxS a) (fun _ => -1) 400 σ 1 = if a = 0 then unitA π σ 0 4 0 else if a = 1 then unitA π σ 0 0 0 - 1 else unitA π σ 0 3 0 - σ 0 3 0 := by
  have st : nxS a 1 σ (unitA π σ) = Sum.inr (if a = 0 then unitA π σ 0 4 0 else if a = 1 then unitA π σ 0 0 0 - 1 else unitA π σ 0 3 0 - σ 0 3 0) := by unfold nxS; rw [if_pos (by omega)]
  rw [show (400 : Nat) = 399 + 1 from rfl, runA_r st]
theorem nextV_1 {σ : ST} {a : Int} (ha : 0 ≤ a ∧ a ≤ 2) : nextV π σ 1 a = (0, runA π (nxS a) (fun _ => -1) 400 σ 1) := by unfold nextV; rw [if_pos ha, if_pos (by decide)]
theorem run_le (hp : PlanOK π) : ∀ (d : Nat) {σ : ST} {left : Int}, AInv π K σ → σ 0 0 0 + d ≤ 2700 → runA π (nxS 1) (fun _ => -1) d σ left ≤ 2700 := by
  intro d
  induction d with
  | zero => intro σ left _ _; show (-1 : Int) ≤ 2700; decide
  | succ d ih =>
    intro σ left inv hT
    have t := (unitA_time hp inv).1
    by_cases c : left - (unitA π σ 0 2 0 - σ 0 2 0) = 0
    · have st : nxS 1 left σ (unitA π σ) = Sum.inr (unitA π σ 0 0 0 - 1) := by unfold nxS; rw [if_pos c]; rfl
      rw [runA_r st]
      omega
    · have st : nxS 1 left σ (unitA π σ) = Sum.inl (left - (unitA π σ 0 2 0 - σ 0 2 0)) := by unfold nxS; rw [if_neg c]
      rw [runA_l st]
      exact ih (left := left - (unitA π σ 0 2 0 - σ 0 2 0)) (unitA_inv hp inv (by omega)) (by omega)
theorem chosen_s {P : Int → HP → Prop} {h : HP} (p : PN G h0 π N pr hs cu) (cs : CuS s.1 N hs cu) (q : Q1 h0 K π s im t h) (kk : ∀ h', Q1 h0 K π s im t h' → P 1 h') : wL_isChosen G h P := by
  have n6 := p.n6
  have en := p.2.2.1.1
  obtain ⟨inv, hT⟩ := q.inv
  have hp := q.pok
  have ht := hp.1
  have eN : (π 0 0).toNat = N := by omega
  have t0 := inv.1
  have u0 := inv.2.1
  have rge := run_ge (K := K) hp 400 (σ := s.1) (left := 1) inv (by omega)
  have rle := run_le (K := K) hp 400 (σ := s.1) (left := 1) inv (by omega)
  have bg := bgA_ge s.1 N
  unfold wL_isChosen
  refine q_count q (inr_s (by omega)) (v := s.1 0 1 0) rfl (fun h1 q1 => ?_)
  refine ⟨by omega, fun _ => kk h1 q1, fun idle => ?_⟩
  refine q_next q1 (inr_s (by omega)) (nextV_1 (by decide)) (fun h2 q2 => ?_)
  refine q_count q2 (inr_s (by omega)) (v := s.1 0 0 0) rfl (fun h3 q3 => ?_)
  refine ⟨by omega, by omega, fun now => ?_, fun _ => kk h3 q3⟩
  have one := now_one hp inv hT now
  have eu : unitA π s.1 = tickA (chooseA π s.1) := by
    unfold unitA
    rw [tells0 p.2.2.1.2]
    unfold midA
    rw [if_pos (by omega)]
  refine ⟨N + 1, ?_⟩
  have start := c29_s (K103 := fun l48 h49 => (-2147483648 ≤ l48 ∧ l48 < 2147483648) ∧ ((l48 < 0 → wX11_next 0 1 0 (ob 1 h49) (fun x53 g54 => ∀ h52 : HP, h52 = pt 1 h49 g54 → wX11_next 0 1 2 (ob 1 h52) (fun x56 g57 => ∀ h55 : HP, h55 = pt 1 h52 g57 → (-2147483648 ≤ x56 ∧ x56 < 2147483648) ∧ ((x56 = 0 → (∃ f118 : Nat, wL_isChosen_156 G  (fun h119 => P 1 h119) (fun h120 => P 0 h120) (fun h121 => P 0 h121) f118 x53 h55)) ∧ (¬ x56 = 0 → P 0 h55))) XF) XF) ∧ (¬ l48 < 0 → wX11_next 0 1 0 (ob 1 h49) (fun x123 g124 => ∀ h122 : HP, h122 = pt 1 h49 g124 → (-2147483648 ≤ x123 ∧ x123 < 2147483648) ∧ (-2147483648 ≤ l48 ∧ l48 < 2147483648) ∧ ((¬ x123 = l48 → P 0 h122) ∧ (x123 = l48 → wX11_next 0 1 2 (ob 1 h122) (fun x129 g130 => ∀ h128 : HP, h128 = pt 1 h122 g130 → (-2147483648 ≤ x129 ∧ x129 < 2147483648) ∧ ((¬ x129 = 1 → P 0 h128) ∧ (x129 = 1 → P 1 h128))) XF))) XF))) p cs N 0 (by omega) q3 (fun h4 q4 => ?_)
  · exact start
  · by_cases q' : bgA s.1 (π 0 0).toNat ≠ -1
    · obtain ⟨hb, -, -⟩ := bg_leaf inv q'
      have ec : chooseA π s.1 = sendA π s.1 (bgA s.1 (π 0 0).toNat) 1 := by unfold chooseA; rw [if_pos q']
      have sa := (sendA_all (σ := s.1) (g := 1) ht hb.1 hb.2).1
      have v0 : runA π (nxS 0) (fun _ => -1) 400 s.1 1 = bgA s.1 N := by
        rw [now_next one, if_pos rfl, eu, ec, tickA_0 (by decide) (by decide), sa.2.2.2.2.1, eN]
      have v2 : runA π (nxS 2) (fun _ => -1) 400 s.1 1 = 1 := by
        rw [now_next one, if_neg (by decide), if_neg (by decide), eu, ec, tickA_0 (by decide) (by decide), sa.2.2.2.1]
        omega
      rw [eN] at q' hb
      refine ⟨by omega, fun z => absurd z (by omega), fun _ => ?_⟩
      refine q_next q4 (inr_s (by omega)) (nextV_1 (by decide)) (fun h5 q5 => ?_)
      rw [v0]
      refine ⟨by omega, by omega, fun z => absurd rfl z, fun _ => ?_⟩
      refine q_next q5 (inr_s (by omega)) (nextV_1 (by decide)) (fun h6 q6 => ?_)
      rw [v2]
      exact ⟨by decide, fun z => absurd rfl z, fun _ => kk h6 q6⟩
    · have q2' : bgA s.1 (π 0 0).toNat = -1 := Classical.not_not.mp q'
      by_cases q3' : byShareA π s.1 = -1
      · exfalso
        have ec : chooseA π s.1 = s.1 := by unfold chooseA; rw [if_neg q', if_pos q3']
        rw [eu, ec, tickA_0 (by decide) (by decide)] at one
        omega
      · have ec : chooseA π s.1 = sendA π s.1 (byShareA π s.1) 0 := by unfold chooseA; rw [if_neg q', if_neg q3']
        obtain ⟨hb, -, -⟩ := bs_leaf (σ := s.1) ht q3'
        have sa := (sendA_all (σ := s.1) (g := 0) ht hb.1 hb.2).1
        have v0 : runA π (nxS 0) (fun _ => -1) 400 s.1 1 = byShareA π s.1 := by
          rw [now_next one, if_pos rfl, eu, ec, tickA_0 (by decide) (by decide), sa.2.2.2.2.1]
        have v2 : runA π (nxS 2) (fun _ => -1) 400 s.1 1 = 0 := by
          rw [now_next one, if_neg (by decide), if_neg (by decide), eu, ec, tickA_0 (by decide) (by decide), sa.2.2.2.1]
          omega
        rw [eN] at q2'
        refine ⟨by omega, fun _ => ?_, fun z => absurd (by omega) z⟩
        refine q_next q4 (inr_s (by omega)) (nextV_1 (by decide)) (fun h5 q5 => ?_)
        refine q_next q5 (inr_s (by omega)) (nextV_1 (by decide)) (fun h6 q6 => ?_)
        rw [v0, v2]
        refine ⟨by decide, fun _ => ⟨N + 1, ?_⟩, fun z => absurd rfl z⟩
        exact c156_s p N _ (by omega) (by omega) (Or.inr (bs_lst q6.1.n12 q3')) q6 (fun h' q'' => kk h' q'')
end CHO
