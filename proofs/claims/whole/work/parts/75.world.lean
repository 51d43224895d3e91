/-! the world, call by call: the class and the reference answer alike, and the world is kept -/
def nrm (x : Int) : Int := (Int32.ofInt x).toInt
theorem RI.cgA {h h' : HP} {π : PL} {s : SD} {im : IM} {t : TX} (q : RI h π s im t) (e : ∀ k, (k = 12 ∨ (49 ≤ k ∧ k ≤ 76)) → h' k = h k) : RI h' π s im t := by
  unfold RI PlanR SideR PastR NoteR ImgR SideI NoteR TxtR IdleR at *
  rw [e 12 (by omega), e 49 (by omega), e 50 (by omega), e 51 (by omega), e 52 (by omega), e 53 (by omega), e 54 (by omega), e 56 (by omega), e 57 (by omega), e 58 (by omega), e 62 (by omega), e 64 (by omega), e 71 (by omega), e 72 (by omega), e 73 (by omega), e 76 (by omega)]
  rw [e 65 (by omega), e 66 (by omega), e 74 (by omega), e 75 (by omega)]
  exact q
def ZS (π : PL) (s : SD) : Prop := szOK π s.1 ∧ ∀ i, 0 ≤ i → i < s.2.1 → szOK π (s.2.2.1 i)
def ZA (π : PL) (s : SD) (im : IM) : Prop := ZS π s ∧ (im.1 = 1 → ZS π im.2.1)
def IV (h : HP) (K : Int) : Prop := ∃ π s im t, WA π K s im t ∧ ZA π s im ∧ CI h π s im t ∧ RI h π s im t
theorem szOK.k8 {π : PL} {σ τ : ST} (q : szOK π σ) (e : τ 8 = σ 8) : szOK π τ := by unfold szOK at *; rw [e]; exact q
theorem ZS.keep {π : PL} {s : SD} (a : ZS π s) : ZS π (keepS s) := by
  obtain ⟨a1, a3⟩ := a
  refine ⟨a1, fun i i0 i1 => ?_⟩
  have i1' : i < keepN s.2.1 := i1
  show szOK π (keepH s.2.1 s.2.2.1 s.1 i)
  unfold keepN at i1'
  unfold keepH
  by_cases c : s.2.1 < 40
  · rw [if_pos c] at i1' ⊢
    show szOK π (if i = s.2.1 then s.1 else s.2.2.1 i)
    by_cases z : i = s.2.1
    · rw [if_pos z]; exact a1
    · rw [if_neg z]; exact a3 i i0 (by omega)
  · rw [if_neg c] at i1' ⊢
    show szOK π (if i = 39 then s.1 else s.2.2.1 (i + 1))
    by_cases z : i = 39
    · rw [if_pos z]; exact a1
    · rw [if_neg z]; exact a3 (i + 1) (by omega) (by omega)
theorem ZS.set {π : PL} {s : SD} {σ : ST} (a : ZS π s) (q : szOK π σ) : ZS π (setS s σ) := ⟨q, a.2⟩
/-- a state more, behind an act -/
theorem WA.act {π : PL} {K : Int} {s : SD} {im : IM} {t : TX} {σ : ST} (w : WA π K s im t) (l : LInv π (K + 1) σ) : WA π (K + 1) (setS (keepS s) σ) im t := by
  have w' := w.mono (show K ≤ K + 1 by omega)
  exact ⟨w'.1, w'.2.1.keep.set l, w'.2.2⟩
theorem ZA.act {π : PL} {s : SD} {im : IM} {σ : ST} (z : ZA π s im) (e : σ 8 = s.1 8) : ZA π (setS (keepS s) σ) im := ⟨z.1.keep.set (z.1.1.k8 e), z.2⟩
/-- an answer of the class, put by in the law's own row; then the reference -/
def Bk (Q : HP → Prop) (kk : Int) (y : Int) (h : HP) : Prop := h 12 7 1 = kk ∧ (kk = 0 → h 77 8 0 = nrm y) ∧ Q h
theorem query {h : HP} {π : PL} {K : Int} {s : SD} {im : IM} {t : TX} {W : (Int → HP → Prop) → (Nat → HP → Prop) → Prop} {R : HP → (Int → HP → Prop) → Prop} {v2 : Int × Int} {ec : Nat → Int} {Q : HP → Prop} {e1 e2 : Nat}
    (w : WA π K s im t) (z : ZA π s im) (ci : CI h π s im t) (ri : RI h π s im t)
    (hc : ∀ P X, (∀ h' v, FrQC h h' → v2 = (0, v) → P v h') → (∀ h', FrQC h h' → v2 = (1, 0) → X e1 h') → (∀ h', FrQC h h' → v2 = (2, 0) → X e2 h') → W P X) (h1 : ec e1 = 1) (h2 : ec e2 = 2 ∨ v2.1 ≠ 2)
    (hr : ∀ hh P, RI hh π s im t → (∀ h' y e v, OkR hh h' e → v2 = (e, v) → (e = 0 → y = v) → P y h') → R hh P) (kQ : ∀ h', IV h' (K + 1) → Q h') :
    W (fun x g => R (up g 77 8 0 (nrm x)) (Bk Q 0)) (fun k g => R g (Bk Q (ec k))) := by
  have iv : ∀ g g' e, CI g π s im t → RI g π s im t → OkR g g' e → IV g' (K + 1) := fun g g' e c r o => ⟨π, s, im, t, w.mono (by omega), z, c.r o.1.rfr, o.ri w r⟩
  refine hc _ _ (fun g v f e => ?_) (fun g f e => ?_) (fun g f e => ?_)
  · have c1 := ci.q f
    have r1 := ri.c w.1 w.qln f.cm
    have c2 : CI (up g 77 8 0 (nrm v)) π s im t := c1.cg (fun k i hk => by rw [up_k (by unfold prC at hk; omega)])
    have r2 : RI (up g 77 8 0 (nrm v)) π s im t := r1.cgA (fun k hk => up_k (by omega))
    refine hr _ _ r2 (fun g' y e' v' o ev yv => ?_)
    rw [ev] at e
    have e0 : e' = 0 := congrArg Prod.fst e
    have ev' : v' = v := congrArg Prod.snd e
    refine ⟨by rw [o.2.2]; exact e0, fun _ => ?_, kQ g' (iv _ _ _ c2 r2 o)⟩
    rw [o.1.1 77 (by decide) (by decide) (by decide) (by decide) (by decide) (by decide) (by decide) (by decide) (by decide) (by decide), up_eq, yv e0, ev']
  · have c1 := ci.q f
    have r1 := ri.c w.1 w.qln f.cm
    refine hr _ _ r1 (fun g' y e' v' o ev yv => ?_)
    rw [ev] at e
    have e0 : e' = 1 := congrArg Prod.fst e
    exact ⟨by rw [o.2.2, h1]; exact e0, fun u => by rw [h1] at u; omega, kQ g' (iv _ _ _ c1 r1 o)⟩
  · have c1 := ci.q f
    have r1 := ri.c w.1 w.qln f.cm
    rcases h2 with h2 | h2
    · refine hr _ _ r1 (fun g' y e' v' o ev yv => ?_)
      rw [ev] at e
      have e0 : e' = 2 := congrArg Prod.fst e
      exact ⟨by rw [o.2.2, h2]; exact e0, fun u => by rw [h2] at u; omega, kQ g' (iv _ _ _ c1 r1 o)⟩
    · rw [e] at h2; exact absurd rfl h2
theorem ne2_0 {x : Int} : ((0 : Int), x).1 ≠ 2 := by show (0 : Int) ≠ 2; decide
theorem ne2_1 {x : Int} : ((1 : Int), x).1 ≠ 2 := by show (1 : Int) ≠ 2; decide
theorem ne2_ite {c : Prop} {i : Decidable c} {a b : Int × Int} (ha : a.1 ≠ 2) (hb : b.1 ≠ 2) : (@ite _ c i a b).1 ≠ 2 := by
  by_cases h : c
  · rw [if_pos h]; exact ha
  · rw [if_neg h]; exact hb
def ecA (k : Nat) : Int := (k : Int) + 1
def ecI (_ : Nat) : Int := 1
theorem sp_count {h : HP} {K a : Int} {Q : HP → Prop} (iv : IV h K) (ha : inR a) (kQ : ∀ h', IV h' (K + 1) → Q h') : wX11_count 0 a h (fun x g => wX12_count 7 a (up g 77 8 0 (nrm x)) (Bk Q 0)) (fun k g => wX12_count 7 a g (Bk Q (ecA k))) := by
  obtain ⟨π, s, im, t, w, z, ci, ri⟩ := iv
  have n2 : (countV π s t a).1 ≠ 2 := by
    unfold countV
    repeat' first | exact ne2_0 | exact ne2_1 | refine ne2_ite ?_ ?_
  exact query (W := wX11_count 0 a h) (R := wX12_count 7 a) (v2 := countV π s t a) (ec := ecA) (e1 := 0) (e2 := 1) w z ci ri (fun P X k1 k2 k3 => count_c w ci ha k1 k2) rfl (Or.inr n2) (fun g P r kk => count_r w r ha kk) kQ
theorem sp_of {h : HP} {K c a : Int} {Q : HP → Prop} (iv : IV h K) (hc : inR c) (ha : inR a) (kQ : ∀ h', IV h' (K + 1) → Q h') : wX11_of 0 c a h (fun x g => wX12_of 7 c a (up g 77 8 0 (nrm x)) (Bk Q 0)) (fun k g => wX12_of 7 c a g (Bk Q (ecA k))) := by
  obtain ⟨π, s, im, t, w, z, ci, ri⟩ := iv
  have n2 : (ofV π s.1 c a).1 ≠ 2 := by
    unfold ofV
    repeat' first | exact ne2_0 | exact ne2_1 | refine ne2_ite ?_ ?_
  exact query (W := wX11_of 0 c a h) (R := wX12_of 7 c a) (v2 := ofV π s.1 c a) (ec := ecA) (e1 := 0) (e2 := 1) w z ci ri (fun P X k1 k2 k3 => of_c (ci.lx w) hc ha k1 k2) rfl (Or.inr n2) (fun g P r kk => of_r ⟨r.rx w, r.2.2.2.2⟩ hc ha kk) kQ
theorem sp_curve {h : HP} {K c kk a : Int} {Q : HP → Prop} (iv : IV h K) (hc : inR c) (hk : inR kk) (ha : inR a) (kQ : ∀ h', IV h' (K + 1) → Q h') : wX11_curve 0 c kk a h (fun x g => wX12_curve 7 c kk a (up g 77 8 0 (nrm x)) (Bk Q 0)) (fun k g => wX12_curve 7 c kk a g (Bk Q (ecA k))) := by
  obtain ⟨π, s, im, t, w, z, ci, ri⟩ := iv
  have n2 : (curveV π s.1 c kk a).1 ≠ 2 := by
    unfold curveV
    repeat' first | exact ne2_0 | exact ne2_1 | refine ne2_ite ?_ ?_
  exact query (W := wX11_curve 0 c kk a h) (R := wX12_curve 7 c kk a) (v2 := curveV π s.1 c kk a) (ec := ecA) (e1 := 0) (e2 := 1) w z ci ri (fun P X k1 k2 k3 => curve_c (ci.lx w) hc hk ha k1 k2) rfl (Or.inr n2) (fun g P r kk => curve_r ⟨r.rx w, r.2.2.2.2⟩ hc hk ha kk) kQ
theorem sp_packet {h : HP} {K c i : Int} {Q : HP → Prop} (iv : IV h K) (hc : inR c) (hi : inR i) (kQ : ∀ h', IV h' (K + 1) → Q h') : wX11_packet 0 c i h (fun x g => wX12_packet 7 c i (up g 77 8 0 (nrm x)) (Bk Q 0)) (fun k g => wX12_packet 7 c i g (Bk Q (ecA k))) := by
  obtain ⟨π, s, im, t, w, z, ci, ri⟩ := iv
  have n2 : (packetV π s.1 c i).1 ≠ 2 := by
    unfold packetV
    repeat' first | exact ne2_0 | exact ne2_1 | refine ne2_ite ?_ ?_
  exact query (W := wX11_packet 0 c i h) (R := wX12_packet 7 c i) (v2 := packetV π s.1 c i) (ec := ecA) (e1 := 0) (e2 := 1) w z ci ri (fun P X k1 k2 k3 => packet_c (ci.lx w) hc hi k1 k2) rfl (Or.inr n2) (fun g P r kk => packet_r ⟨r.rx w, r.2.2.2.2⟩ hc hi kk) kQ
theorem sp_due {h : HP} {K c a : Int} {Q : HP → Prop} (iv : IV h K) (hc : inR c) (ha : inR a) (kQ : ∀ h', IV h' (K + 1) → Q h') : wX11_due 0 c a h (fun x g => wX12_due 7 c a (up g 77 8 0 (nrm x)) (Bk Q 0)) (fun k g => wX12_due 7 c a g (Bk Q (ecA k))) := by
  obtain ⟨π, s, im, t, w, z, ci, ri⟩ := iv
  have n2 : (dueV π s.1 c a).1 ≠ 2 := by
    unfold dueV
    repeat' first | exact ne2_0 | exact ne2_1 | refine ne2_ite ?_ ?_
  exact query (W := wX11_due 0 c a h) (R := wX12_due 7 c a) (v2 := dueV π s.1 c a) (ec := ecA) (e1 := 0) (e2 := 1) w z ci ri (fun P X k1 k2 k3 => due_c (ci.lx w) hc ha k1 k2) rfl (Or.inr n2) (fun g P r kk => due_r ⟨r.rx w, r.2.2.2.2⟩ hc ha kk) kQ
theorem sp_together {h : HP} {K a : Int} {Q : HP → Prop} (iv : IV h K) (ha : inR a) (kQ : ∀ h', IV h' (K + 1) → Q h') : wX11_together 0 a h (fun x g => wX12_together 7 a (up g 77 8 0 (nrm x)) (Bk Q 0)) (fun k g => wX12_together 7 a g (Bk Q (ecA k))) := by
  obtain ⟨π, s, im, t, w, z, ci, ri⟩ := iv
  have n2 : (togV π s.1 a).1 ≠ 2 := by
    unfold togV
    repeat' first | exact ne2_0 | exact ne2_1 | refine ne2_ite ?_ ?_
  exact query (W := wX11_together 0 a h) (R := wX12_together 7 a) (v2 := togV π s.1 a) (ec := ecA) (e1 := 0) (e2 := 1) w z ci ri (fun P X k1 k2 k3 => together_c (ci.lx w) ha k1 k2) rfl (Or.inr n2) (fun g P r kk => together_r ⟨r.rx w, r.2.2.2.2⟩ ha kk) kQ
theorem sp_toGrant {h : HP} {K b d : Int} {Q : HP → Prop} (iv : IV h K) (hb : inR b) (hd : inR d) (kQ : ∀ h', IV h' (K + 1) → Q h') : wX11_toGrant 0 b d h (fun x g => wX12_toGrant 7 b d (up g 77 8 0 (nrm x)) (Bk Q 0)) (fun k g => wX12_toGrant 7 b d g (Bk Q (ecI k))) := by
  obtain ⟨π, s, im, t, w, z, ci, ri⟩ := iv
  have n2 : (tgV π s.1 b d).1 ≠ 2 := by
    unfold tgV
    repeat' first | exact ne2_0 | exact ne2_1 | refine ne2_ite ?_ ?_
  exact query (W := wX11_toGrant 0 b d h) (R := wX12_toGrant 7 b d) (v2 := tgV π s.1 b d) (ec := ecI) (e1 := 1) (e2 := 1) w z ci ri (fun P X k1 k2 k3 => toGrant_c (ci.lx w) hb hd k1 k2) rfl (Or.inr n2) (fun g P r kk => toGrant_r ⟨r.rx w, r.2.2.2.2⟩ hb hd kk) kQ
theorem sp_bound {h : HP} {K c b : Int} {Q : HP → Prop} (iv : IV h K) (hc : inR c) (hb : inR b) (kQ : ∀ h', IV h' (K + 1) → Q h') : wX11_bound 0 c b h (fun x g => wX12_bound 7 c b (up g 77 8 0 (nrm x)) (Bk Q 0)) (fun k g => wX12_bound 7 c b g (Bk Q (ecA k))) := by
  obtain ⟨π, s, im, t, w, z, ci, ri⟩ := iv
  exact query (W := wX11_bound 0 c b h) (R := wX12_bound 7 c b) (v2 := boundV π s.1 c b) (ec := ecA) (e1 := 0) (e2 := 1) w z ci ri (fun P X k1 k2 k3 => bound_c (ci.lx w) hc hb k1 k2 k3) rfl (Or.inl rfl) (fun g P r kk => bound_r ⟨r.rx w, r.2.2.2.2⟩ hc hb kk) kQ
theorem sp_then {h : HP} {K c u a : Int} {Q : HP → Prop} (iv : IV h K) (hc : inR c) (hu : inR u) (ha : inR a) (kQ : ∀ h', IV h' (K + 1) → Q h') : wX11_then 0 c u a h (fun x g => wX12_then 7 c u a (up g 77 8 0 (nrm x)) (Bk Q 0)) (fun k g => wX12_then 7 c u a g (Bk Q (ecA k))) := by
  obtain ⟨π, s, im, t, w, z, ci, ri⟩ := iv
  exact query (W := wX11_then 0 c u a h) (R := wX12_then 7 c u a) (v2 := thenV π s.1 c u a) (ec := ecA) (e1 := 0) (e2 := 1) w z ci ri (fun P X k1 k2 k3 => then_c (ci.lx w) w.2.1.1.2 hc hu ha k1 k2 k3) rfl (Or.inl rfl) (fun g P r kk => then_r ⟨r.rx w, r.2.2.2.2⟩ w.2.1.1.2 hc hu ha kk) kQ
theorem sp_next {h : HP} {K i a : Int} {Q : HP → Prop} (iv : IV h K) (hi : inR i) (ha : inR a) (kQ : ∀ h', IV h' (K + 1) → Q h') : wX11_next 0 i a h (fun x g => wX12_next 7 i a (up g 77 8 0 (nrm x)) (Bk Q 0)) (fun k g => wX12_next 7 i a g (Bk Q (ecA k))) := by
  obtain ⟨π, s, im, t, w, z, ci, ri⟩ := iv
  exact query (W := wX11_next 0 i a h) (R := wX12_next 7 i a) (v2 := nextV π s.1 i a) (ec := ecA) (e1 := 0) (e2 := 1) w z ci ri (fun P X k1 k2 k3 => next_c (ci.lx w) w.2.1.1.2 hi ha k1 k2 k3) rfl (Or.inl rfl) (fun g P r kk => next_r ⟨r.rx w, r.2.2.2.2⟩ w.2.1.1.2 hi ha kk) kQ
theorem sp_waits {h : HP} {K c : Int} {Q : HP → Prop} (iv : IV h K) (hc : inR c) (kQ : ∀ h', IV h' (K + 1) → Q h') : wX11_waits 0 c h (fun x g => wX12_waits 7 c (up g 77 8 0 (nrm x)) (Bk Q 0)) (fun k g => wX12_waits 7 c g (Bk Q (ecA k))) := by
  obtain ⟨π, s, im, t, w, z, ci, ri⟩ := iv
  have n2 : (waitsV π s.1 c).1 ≠ 2 := by
    unfold waitsV
    repeat' first | exact ne2_0 | exact ne2_1 | refine ne2_ite ?_ ?_
  exact query (W := wX11_waits 0 c h) (R := wX12_waits 7 c) (v2 := waitsV π s.1 c) (ec := ecA) (e1 := 0) (e2 := 1) w z ci ri (fun P X k1 k2 k3 => waits_c (ci.lx w) w.2.1.1.2 hc k1 k2) rfl (Or.inr n2) (fun g P r kk => waits_r ⟨r.rx w, r.2.2.2.2⟩ w.2.1.1.2 hc kk) kQ
theorem sp_longest {h : HP} {K c n : Int} {Q : HP → Prop} (iv : IV h K) (hc : inR c) (hn : inR n) (kQ : ∀ h', IV h' (K + 1) → Q h') : wX11_longest 0 c n h (fun x g => wX12_longest 7 c n (up g 77 8 0 (nrm x)) (Bk Q 0)) (fun k g => wX12_longest 7 c n g (Bk Q (ecA k))) := by
  obtain ⟨π, s, im, t, w, z, ci, ri⟩ := iv
  exact query (W := wX11_longest 0 c n h) (R := wX12_longest 7 c n) (v2 := longestV π s.1 c n) (ec := ecA) (e1 := 0) (e2 := 1) w z ci ri (fun P X k1 k2 k3 => longest_c (ci.lx w) w.2.1.1.2 hc hn k1 k2 k3) rfl (Or.inl rfl) (fun g P r kk => longest_r ⟨r.rx w, r.2.2.2.2⟩ w.2.1.1.2 hc hn kk) kQ
theorem sp_toShare {h : HP} {K c b n : Int} {Q : HP → Prop} (iv : IV h K) (hc : inR c) (hb : inR b) (hn : inR n) (kQ : ∀ h', IV h' (K + 1) → Q h') : wX11_toShare 0 c b n h (fun x g => wX12_toShare 7 c b n (up g 77 8 0 (nrm x)) (Bk Q 0)) (fun k g => wX12_toShare 7 c b n g (Bk Q (ecA k))) := by
  obtain ⟨π, s, im, t, w, z, ci, ri⟩ := iv
  exact query (W := wX11_toShare 0 c b n h) (R := wX12_toShare 7 c b n) (v2 := toShareV π s.1 c b n) (ec := ecA) (e1 := 0) (e2 := 1) w z ci ri (fun P X k1 k2 k3 => toShare_c (ci.lx w) w.2.1.1.2 hc hb hn k1 k2 k3) rfl (Or.inl rfl) (fun g P r kk => toShare_r ⟨r.rx w, r.2.2.2.2⟩ w.2.1.1.2 hc hb hn kk) kQ
theorem sp_toCap {h : HP} {K c l n : Int} {Q : HP → Prop} (iv : IV h K) (hc : inR c) (hl : inR l) (hn : inR n) (kQ : ∀ h', IV h' (K + 1) → Q h') : wX11_toCap 0 c l n h (fun x g => wX12_toCap 7 c l n (up g 77 8 0 (nrm x)) (Bk Q 0)) (fun k g => wX12_toCap 7 c l n g (Bk Q (ecA k))) := by
  obtain ⟨π, s, im, t, w, z, ci, ri⟩ := iv
  exact query (W := wX11_toCap 0 c l n h) (R := wX12_toCap 7 c l n) (v2 := toCapV π s.1 c l n) (ec := ecA) (e1 := 0) (e2 := 1) w z ci ri (fun P X k1 k2 k3 => toCap_c (ci.lx w) w.2.1.1.2 hc hl hn k1 k2 k3) rfl (Or.inl rfl) (fun g P r kk => toCap_r ⟨r.rx w, r.2.2.2.2⟩ w.2.1.1.2 hc hl hn kk) kQ
theorem sp_blocked {h : HP} {K c b : Int} {Q : HP → Prop} (iv : IV h K) (hc : inR c) (hb : inR b) (kQ : ∀ h', IV h' (K + 1) → Q h') : wX11_blocked 0 c b h (fun x g => wX12_blocked 7 c b (up g 77 8 0 (nrm x)) (Bk Q 0)) (fun k g => wX12_blocked 7 c b g (Bk Q (ecA k))) := by
  obtain ⟨π, s, im, t, w, z, ci, ri⟩ := iv
  have n2 : (blockedV π s.1 c b).1 ≠ 2 := by
    unfold blockedV
    repeat' first | exact ne2_0 | exact ne2_1 | refine ne2_ite ?_ ?_
  exact query (W := wX11_blocked 0 c b h) (R := wX12_blocked 7 c b) (v2 := blockedV π s.1 c b) (ec := ecA) (e1 := 0) (e2 := 1) w z ci ri (fun P X k1 k2 k3 => blocked_c (ci.lx w) w.2.1.1.2 hc hb k1 k2) rfl (Or.inr n2) (fun g P r kk => blocked_r ⟨r.rx w, r.2.2.2.2⟩ w.2.1.1.2 hc hb kk) kQ
theorem sp_spread {h : HP} {K c n : Int} {Q : HP → Prop} (iv : IV h K) (hc : inR c) (hn : inR n) (kQ : ∀ h', IV h' (K + 1) → Q h') : wX11_spread 0 c n h (fun x g => wX12_spread 7 c n (up g 77 8 0 (nrm x)) (Bk Q 0)) (fun k g => wX12_spread 7 c n g (Bk Q (ecA k))) := by
  obtain ⟨π, s, im, t, w, z, ci, ri⟩ := iv
  exact query (W := wX11_spread 0 c n h) (R := wX12_spread 7 c n) (v2 := spreadV π s.1 c n) (ec := ecA) (e1 := 0) (e2 := 1) w z ci ri (fun P X k1 k2 k3 => spreadQ_c (ci.lx w) w.2.1.1.2 hc hn k1 k2 k3) rfl (Or.inl rfl) (fun g P r kk => spreadQ_r ⟨r.rx w, r.2.2.2.2⟩ w.2.1.1.2 hc hn kk) kQ
theorem sp_other {h : HP} {K a : Int} {Q : HP → Prop} (iv : IV h K) (ha : inR a) (kQ : ∀ h', IV h' (K + 1) → Q h') : wX11_other 0 a h (fun x g => wX12_other 7 a (up g 77 8 0 (nrm x)) (Bk Q 0)) (fun k g => wX12_other 7 a g (Bk Q (ecA k))) := by
  obtain ⟨π, s, im, t, w, z, ci, ri⟩ := iv
  have n2 : (otherV π s.1 s.2.2.2.1 s.2.2.2.2 a).1 ≠ 2 := by
    unfold otherV
    repeat' first | exact ne2_0 | exact ne2_1 | refine ne2_ite ?_ ?_
  exact query (W := wX11_other 0 a h) (R := wX12_other 7 a) (v2 := otherV π s.1 s.2.2.2.1 s.2.2.2.2 a) (ec := ecA) (e1 := 0) (e2 := 1) w z ci ri (fun P X k1 k2 k3 => other_c (ci.lx w) w.2.1.1.2 z.1.1 ci.2.1.2.2 w.2.1.2.2.2.2 ha k1 k2) rfl (Or.inr n2) (fun g P r kk => other_r ⟨r.rx w, r.2.2.2.2⟩ w.2.1.1.2 r.2.1.2.2.1 w.2.1.2.2.2.1 r.2.1.2.2.2 w.2.1.2.2.2.2 ha kk) kQ
theorem sp_look {h : HP} {K a : Int} {Q : HP → Prop} (iv : IV h K) (ha : inR a) (kQ : ∀ h', IV h' (K + 1) → Q h') : wX11_look 0 a h (fun x g => wX12_look 7 a (up g 77 8 0 (nrm x)) (Bk Q 0)) (fun k g => wX12_look 7 a g (Bk Q (ecA k))) := by
  obtain ⟨π, s, im, t, w, z, ci, ri⟩ := iv
  have n2 : (lookV π s.1 s.2.2.2.1 s.2.2.2.2 a).1 ≠ 2 := by
    unfold lookV
    repeat' first | exact ne2_0 | exact ne2_1 | refine ne2_ite ?_ ?_
  exact query (W := wX11_look 0 a h) (R := wX12_look 7 a) (v2 := lookV π s.1 s.2.2.2.1 s.2.2.2.2 a) (ec := ecA) (e1 := 0) (e2 := 1) w z ci ri (fun P X k1 k2 k3 => look_c (ci.lx w) w.2.1.1.2 z.1.1 ci.2.1.2.2 w.2.1.2.2.2.2 ha k1 k2) rfl (Or.inr n2) (fun g P r kk => look_r ⟨r.rx w, r.2.2.2.2⟩ w.2.1.1.2 r.2.1.2.2.1 w.2.1.2.2.2.1 r.2.1.2.2.2 w.2.1.2.2.2.2 ha kk) kQ
theorem sp_storms {h : HP} {K f n tn mo : Int} {Q : HP → Prop} (iv : IV h K) (hf : inR f) (hn : inR n) (htn : inR tn) (hmo : inR mo) (kQ : ∀ h', IV h' (K + 1) → Q h') : wX11_storms 0 f n tn mo h (fun x g => wX12_storms 7 f n tn mo (up g 77 8 0 (nrm x)) (Bk Q 0)) (fun k g => wX12_storms 7 f n tn mo g (Bk Q (ecA k))) := by
  obtain ⟨π, s, im, t, w, z, ci, ri⟩ := iv
  exact query (W := wX11_storms 0 f n tn mo h) (R := wX12_storms 7 f n tn mo) (v2 := stormsV π s.1 f n tn mo) (ec := ecA) (e1 := 0) (e2 := 1) w z ci ri (fun P X k1 k2 k3 => storms_c (ci.lx w) w.2.1.1.2 hf hn htn hmo k1 k2 k3) rfl (Or.inl rfl) (fun g P r kk => storms_r ⟨r.rx w, r.2.2.2.2⟩ w.2.1.1.2 hf hn htn hmo kk) kQ
theorem sp_years {h : HP} {K sd n a : Int} {Q : HP → Prop} (iv : IV h K) (hsd : inR sd) (hn : inR n) (ha : inR a) (kQ : ∀ h', IV h' (K + 1) → Q h') : wX11_years 0 sd n a h (fun x g => wX12_years 7 sd n a (up g 77 8 0 (nrm x)) (Bk Q 0)) (fun k g => wX12_years 7 sd n a g (Bk Q (ecA k))) := by
  obtain ⟨π, s, im, t, w, z, ci, ri⟩ := iv
  exact query (W := wX11_years 0 sd n a h) (R := wX12_years 7 sd n a) (v2 := yearsV π s.1 sd n a) (ec := ecA) (e1 := 0) (e2 := 1) w z ci ri (fun P X k1 k2 k3 => years_c (ci.lx w) w.2.1.1.2 hn ha k1 k2 k3) rfl (Or.inl rfl) (fun g P r kk => years_r ⟨r.rx w, r.2.2.2.2⟩ w.2.1.1.2 hn ha kk) kQ
theorem sp_told {h : HP} {K c i : Int} {Q : HP → Prop} (iv : IV h K) (hc : inR c) (hi : inR i) (kQ : ∀ h', IV h' (K + 1) → Q h') : wX11_told 0 c i h (fun x g => wX12_told 7 c i (up g 77 8 0 (nrm x)) (Bk Q 0)) (fun k g => wX12_told 7 c i g (Bk Q (ecA k))) := by
  obtain ⟨π, s, im, t, w, z, ci, ri⟩ := iv
  have n2 : (toldV π s.1 c i).1 ≠ 2 := by
    unfold toldV
    repeat' first | exact ne2_0 | exact ne2_1 | refine ne2_ite ?_ ?_
  exact query (W := wX11_told 0 c i h) (R := wX12_told 7 c i) (v2 := toldV π s.1 c i) (ec := ecA) (e1 := 0) (e2 := 1) w z ci ri (fun P X k1 k2 k3 => told_c (ci.lx w) hc hi k1 k2) rfl (Or.inr n2) (fun g P r kk => told_r ⟨r.rx w, r.2.2.2.2⟩ hc hi kk) kQ
theorem sp_come {h : HP} {K c sz : Int} {Q : HP → Prop} (iv : IV h K) (hc : inR c) (hz : inR sz) (kQ : ∀ h', IV h' (K + 1) → Q h') : wX11_come 0 c sz h (fun x g => wX12_come 7 c sz g (fun y g' => x = y ∧ Q g')) := by
  obtain ⟨π, s, im, t, w, z, ci, ri⟩ := iv
  refine come_c w ci hc hz (fun g f pp c1 => come_r w (ri.c w.1 w.qln f) hc hz (fun g' f' _ _ r2 => ⟨rfl, kQ g' ⟨π, _, im, t, w.act ⟨(acceptA_inv w.1.1 w.2.1.1.1 pp.1.1.1 pp.1.1.2 pp.1.2 pp.2), by rw [show acceptA π s.1 c sz 0 = s.1 0 from acceptA_0 (Or.inl rfl)]; exact w.2.1.1.2⟩, z.act (acceptA_0 (Or.inr rfl)), c1.r f', r2⟩⟩) (fun g' f' _ np _ => absurd pp np)) (fun g f np c1 => come_r w (ri.c w.1 w.qln f) hc hz (fun g' f' _ pp _ => absurd pp np) (fun g' f' _ _ r2 => ⟨rfl, kQ g' ⟨π, s, im, refT t 1, w.ref.mono (by omega), z, c1.r f', r2⟩⟩))
theorem sp_change {h : HP} {K c k a b d : Int} {Q : HP → Prop} (iv : IV h K) (hc : inR c) (hk : inR k) (ha : inR a) (hb : inR b) (hd : inR d) (kQ : ∀ h', IV h' (K + 1) → Q h') : wX11_change 0 c k a b d h (fun x g => wX12_change 7 c k a b d g (fun y g' => x = y ∧ Q g')) := by
  obtain ⟨π, s, im, t, w, z, ci, ri⟩ := iv
  refine changeQ_c w ci hc hk ha hb hd (fun g f pp c1 => changeQ_r w (ri.c w.1 w.qln f) hc hk ha hb hd (fun g' f' _ _ r2 => ⟨rfl, kQ g' ⟨π, _, im, t, w.act ⟨((changeA_inv w.2.1.1.1 pp.1.1 pp.1.2 pp.2.1 pp.2.2.1 pp.2.2.2.1).mono (by omega)), by rw [changeA_6 0 (by decide)]; exact w.2.1.1.2⟩, z.act (changeA_6 8 (by decide)), c1.r f', r2⟩⟩) (fun g' f' _ np _ => absurd pp np)) (fun g f np c1 => changeQ_r w (ri.c w.1 w.qln f) hc hk ha hb hd (fun g' f' _ pp _ => absurd pp np) (fun g' f' _ _ r2 => ⟨rfl, kQ g' ⟨π, s, im, refT t 1, w.ref.mono (by omega), z, c1.r f', r2⟩⟩))
theorem sp_empty {h : HP} {K c : Int} {Q : HP → Prop} (iv : IV h K) (hc : inR c) (kQ : ∀ h', IV h' (K + 1) → Q h') : wX11_empty 0 c h (fun x g => wX12_empty 7 c g (fun y g' => x = y ∧ Q g')) := by
  obtain ⟨π, s, im, t, w, z, ci, ri⟩ := iv
  refine emptyQ_c w ci hc (fun g f pp c1 => emptyQ_r w (ri.c w.1 w.qln f) hc (fun g' f' _ _ r2 => ⟨rfl, kQ g' ⟨π, _, im, t, w.act ⟨((dropQ_inv w.2.1.1.1 c).mono (by omega)), by rw [dropQ_k (by decide)]; exact w.2.1.1.2⟩, z.act (dropQ_k (by decide)), c1.r f', r2⟩⟩) (fun g' f' _ np _ => absurd pp np)) (fun g f np c1 => emptyQ_r w (ri.c w.1 w.qln f) hc (fun g' f' _ pp _ => absurd pp np) (fun g' f' _ _ r2 => ⟨rfl, kQ g' ⟨π, s, im, refT t 1, w.ref.mono (by omega), z, c1.r f', r2⟩⟩))
theorem sp_lift {h : HP} {K c k : Int} {Q : HP → Prop} (iv : IV h K) (hc : inR c) (hk : inR k) (kQ : ∀ h', IV h' (K + 1) → Q h') : wX11_lift 0 c k h (fun x g => wX12_lift 7 c k g (fun y g' => x = y ∧ Q g')) := by
  obtain ⟨π, s, im, t, w, z, ci, ri⟩ := iv
  refine liftQ_c w ci hc hk (fun g f pp c1 => liftQ_r w (ri.c w.1 w.qln f) hc hk (fun g' f' _ _ r2 => ⟨rfl, kQ g' ⟨π, _, im, t, w.act ⟨((dropA_inv w.2.1.1.1 (by have := pp.2.1; omega)).mono (by omega)), by rw [dropA_k (by decide)]; exact w.2.1.1.2⟩, z.act (dropA_k (by decide)), c1.r f', r2⟩⟩) (fun g' f' _ np _ => absurd pp np)) (fun g f np c1 => liftQ_r w (ri.c w.1 w.qln f) hc hk (fun g' f' _ pp _ => absurd pp np) (fun g' f' _ _ r2 => ⟨rfl, kQ g' ⟨π, s, im, refT t 1, w.ref.mono (by omega), z, c1.r f', r2⟩⟩))
theorem sp_stop {h : HP} {K f : Int} {Q : HP → Prop} (iv : IV h K) (hf : inR f) (kQ : ∀ h', IV h' (K + 1) → Q h') : wX11_stop 0 f h (fun x g => wX12_stop 7 f g (fun y g' => x = y ∧ Q g')) := by
  obtain ⟨π, s, im, t, w, z, ci, ri⟩ := iv
  refine stopQ_c w ci hf (fun g f pp c1 => stopQ_r w (ri.c w.1 w.qln f) hf (fun g' f' _ _ r2 => ⟨rfl, kQ g' ⟨π, _, im, t, w.act ⟨((togA_inv w.2.1.1.1 pp.1 (by have := w.1.2.1; omega)).mono (by omega)), by unfold togA; rw [up_i (by decide)]; exact w.2.1.1.2⟩, z.act (up_k (by decide)), c1.r f', r2⟩⟩) (fun g' f' _ np _ => absurd pp np)) (fun g f np c1 => stopQ_r w (ri.c w.1 w.qln f) hf (fun g' f' _ pp _ => absurd pp np) (fun g' f' _ _ r2 => ⟨rfl, kQ g' ⟨π, s, im, refT t 1, w.ref.mono (by omega), z, c1.r f', r2⟩⟩))
theorem sp_units {h : HP} {K u : Int} {Q : HP → Prop} (iv : IV h K) (hu : inR u) (kQ : ∀ h', IV h' (K + 1) → Q h') : wX11_units 0 u h (fun x g => wX12_units 7 u g (fun y g' => x = y ∧ Q g')) := by
  obtain ⟨π, s, im, t, w, z, ci, ri⟩ := iv
  refine units_c w ci hu (fun g f pp c1 => units_r w (ri.c w.1 w.qln f) hu (fun g' f' _ _ r2 => ⟨rfl, kQ g' ⟨π, _, im, t, w.act ?_, z.act ?_, c1.r f', r2⟩⟩) (fun g' f' _ np _ => absurd pp np)) (fun g f np c1 => units_r w (ri.c w.1 w.qln f) hu (fun g' f' _ pp _ => absurd pp np) (fun g' f' _ _ r2 => ⟨rfl, kQ g' ⟨π, s, im, refT t 1, w.ref.mono (by omega), z, c1.r f', r2⟩⟩))
  · unfold unitsP at pp
    have g := goA_inv w.1 u.toNat w.2.1.1.1 (by omega)
    exact ⟨g.1.mono (by omega), by rw [g.2.1]; omega⟩
  · unfold unitsP at pp
    exact (goA_inv w.1 u.toNat w.2.1.1.1 (by omega)).2.2.2
theorem sp_feed {h : HP} {K a b c d e : Int} {Q : HP → Prop} (iv : IV h K) (kQ : ∀ h', IV h' (K + 1) → Q h') : wX11_feed 0 a b c d e h (fun x g => wX12_feed 7 a b c d e g (fun y g' => x = y ∧ Q g')) := by
  obtain ⟨π, s, im, t, w, z, ci, ri⟩ := iv
  refine feed_c w ci (fun g f pp c1 => feed_r w (ri.c w.1 w.qln f) (fun g' f' _ _ r2 => ⟨rfl, kQ g' ⟨π, s, im, _, (w.feed pp).mono (by omega), z, c1.r f', r2⟩⟩) (fun g' f' _ np _ => absurd pp np)) (fun np => feed_r w ri (fun g' f' _ pp _ => absurd pp np) (fun g' f' _ _ r2 => ⟨rfl, kQ g' ⟨π, s, im, t, w.mono (by omega), z, ci.r f', r2⟩⟩))
theorem sp_fault {h : HP} {K : Int} {Q : HP → Prop} (iv : IV h K) (kQ : ∀ h', IV h' (K + 1) → Q h') : wX11_fault 0 h (fun x g => wX12_fault 7 g (fun y g' => x = y ∧ Q g')) := by
  obtain ⟨π, s, im, t, w, z, ci, ri⟩ := iv
  exact fault_c ci (fault_r w ri (fun g' f' _ r2 => ⟨rfl, kQ g' ⟨π, s, im, t, w.mono (by omega), z, ci.r f', r2⟩⟩))
theorem sp_undo {h : HP} {K : Int} {Q : HP → Prop} (iv : IV h K) (kQ : ∀ h', IV h' (K + 1) → Q h') : wX11_undo 0 h (fun x g => wX12_undo 7 g (fun y g' => x = y ∧ Q g')) := by
  obtain ⟨π, s, im, t, w, z, ci, ri⟩ := iv
  have w' := w.mono (show K ≤ K + 1 by omega)
  refine undoQ_c w ci (fun g f pp c1 => undoQ_r w (ri.c w.1 w.qln f) (fun g' f' _ _ r2 => ⟨rfl, kQ g' ⟨π, undoS s, im, t, ?_, ?_, c1.r f', r2⟩⟩) (fun g' f' _ _ np => absurd np pp)) (fun np => undoQ_r w ri (fun g' f' _ pp _ => absurd np pp) (fun g' f' _ r2 _ => ⟨rfl, kQ g' ⟨π, s, im, t, w', z, ci.r f', r2⟩⟩))
  · have n := w.2.1.2.1
    refine ⟨w'.1, ⟨w'.2.1.2.2.1 (s.2.1 - 1) (by omega) (by omega), ?_, fun i i0 i1 => ?_, w'.2.1.2.2.2⟩, w'.2.2⟩
    · show 0 ≤ s.2.1 - 1 ∧ s.2.1 - 1 ≤ 40; omega
    · have i1' : i < s.2.1 - 1 := i1
      exact w'.2.1.2.2.1 i i0 (by omega)
  · have n := w.2.1.2.1
    refine ⟨⟨z.1.2 (s.2.1 - 1) (by omega) (by omega), fun i i0 i1 => ?_⟩, z.2⟩
    have i1' : i < s.2.1 - 1 := i1
    exact z.1.2 i i0 (by omega)
theorem sp_note {h : HP} {K c u b : Int} {Q : HP → Prop} (iv : IV h K) (hc : inR c) (hu : inR u) (hb : inR b) (kQ : ∀ h', IV h' (K + 1) → Q h') : wX11_note 0 c u b h (fun x g => wX12_note 7 c u b g (fun y g' => x = y ∧ Q g')) := by
  obtain ⟨π, s, im, t, w, z, ci, ri⟩ := iv
  have w' := w.mono (show K ≤ K + 1 by omega)
  exact noteQ_c w ci hc hu hb (fun g f pp c1 => noteQ_r w (ri.c w.1 w.qln f) hc hu hb (fun g' f' _ _ r2 => ⟨rfl, kQ g' ⟨π, _, im, t, ⟨w'.1, w'.2.1.note pp, w'.2.2⟩, z, c1.r f', r2⟩⟩) (fun g' f' _ np _ => absurd pp np)) (fun g f np c1 => noteQ_r w (ri.c w.1 w.qln f) hc hu hb (fun g' f' _ pp _ => absurd pp np) (fun g' f' _ _ r2 => ⟨rfl, kQ g' ⟨π, s, im, refT t 2, w.ref.mono (by omega), z, c1.r f', r2⟩⟩))
theorem sp_forget {h : HP} {K : Int} {Q : HP → Prop} (iv : IV h K) (kQ : ∀ h', IV h' (K + 1) → Q h') : wX11_forget 0 h (fun g => wX12_forget 7 g Q) := by
  obtain ⟨π, s, im, t, w, z, ci, ri⟩ := iv
  have w' := w.mono (show K ≤ K + 1 by omega)
  refine forgetQ_c ci (fun g f c1 => forgetQ_r w (ri.c w.1 w.qln f) (fun g' f' _ r2 => kQ g' ⟨π, forgetS s, im, t, ⟨w'.1, ⟨w'.2.1.1, w'.2.1.2.1, w'.2.1.2.2.1, ⟨Int.le_refl (0 : Int), ?_⟩, fun j j0 j1 => ?_⟩, w'.2.2⟩, z, c1.r f', r2⟩))
  · show (0 : Int) ≤ 8; omega
  · have : j < (0 : Int) := j1
    omega
theorem sp_image {h : HP} {K : Int} {Q : HP → Prop} (iv : IV h K) (kQ : ∀ h', IV h' (K + 1) → Q h') : wX11_image 0 h (fun g => wX12_image 7 g Q) := by
  obtain ⟨π, s, im, t, w, z, ci, ri⟩ := iv
  have w' := w.mono (show K ≤ K + 1 by omega)
  exact image_c w ci (fun g f c1 => image_r w (ri.c w.1 w.qln f) (fun g' f' _ r2 => kQ g' ⟨π, s, imgOf s t, t, ⟨w'.1, w'.2.1, Or.inr rfl, fun _ => w'.2.1, w'.2.2.2.2⟩, ⟨z.1, fun _ => z.1⟩, c1.r f', r2⟩))
theorem sp_restore {h : HP} {K : Int} {Q : HP → Prop} (iv : IV h K) (kQ : ∀ h', IV h' (K + 1) → Q h') : wX11_restore 0 h (fun x g => wX12_restore 7 g (fun y g' => x = y ∧ Q g')) := by
  obtain ⟨π, s, im, t, w, z, ci, ri⟩ := iv
  have w' := w.mono (show K ≤ K + 1 by omega)
  exact restore_c w ci (fun g f pp c1 => restore_r w (ri.c w.1 w.qln f) (fun g' f' _ _ r2 => ⟨rfl, kQ g' ⟨π, im.2.1, im, resT t im, ⟨w'.1, w'.2.2.2.1 pp, w'.2.2⟩, ⟨z.2 pp, z.2⟩, c1.r f', r2⟩⟩) (fun g' f' _ np _ => by omega)) (fun np => restore_r w ri (fun g' f' _ pp _ => by omega) (fun g' f' _ _ r2 => ⟨rfl, kQ g' ⟨π, s, im, t, w', z, ci.r f', r2⟩⟩))
theorem sp_link {h : HP} {K n : Int} {Q : HP → Prop} (iv : IV h K) (hK : 0 ≤ K) (hn : inR n) (kQ : ∀ h', IV h' (K + 1) → Q h') : wX11_link 0 n h (fun x g => wX12_link 7 n (up g 77 8 0 (nrm x)) (Bk Q 0)) (fun k g => wX12_link 7 n g (Bk Q (ecI k))) := by
  obtain ⟨π, s, im, t, w, z, ci, ri⟩ := iv
  have w' := w.mono (show K ≤ K + 1 by omega)
  have o1 : ∀ {g : HP} {π' : PL} {s' : SD} {im' : IM} {t' : TX} {v : Int}, CI g π' s' im' t' → CI (up g 77 8 0 v) π' s' im' t' := fun c => c.cg (fun k i hk => by rw [up_k (by unfold prC at hk; omega)])
  have o2 : ∀ {g : HP} {v : Int}, RI g π s im t → RI (up g 77 8 0 v) π s im t := fun r => r.cgA (fun k hk => up_k (by omega))
  refine link_c w ci hn (fun g δ gg tk f rn er dk c1 => ?_) (fun g y δ tk f rn ny er c1 => ?_) (fun nr => ?_)
  · refine link_r w (o2 (ri.c w.1 w.qln f)) hn (fun g' δ' tk' f' f77 e1 _ er' r2 => ?_) (fun g' y' δ' tk' f' f77 e1 _ ny' er' r2 => ?_) (fun g' f' e1 nr _ => absurd rn nr)
    · rw [er] at er'
      have ed : δ = δ' := congrArg (fun r : RD => r.2.2) er'
      subst ed
      refine ⟨e1, fun _ => by rw [f77, up_eq], kQ g' ⟨δ, _, _, _, ⟨dk.1, ⟨⟨st0_inv dk (by omega), ?_⟩, ⟨Int.le_refl (0 : Int), ?_⟩, fun i i0 i1 => ?_, ⟨Int.le_refl (0 : Int), ?_⟩, fun j j0 j1 => ?_⟩, Or.inl rfl, fun u => ?_, ⟨Int.le_refl (0 : Int), ?_⟩, fun j j0 j1 => ?_⟩, ⟨⟨fun f0 _ _ => rfl, fun i i0 i1 => ?_⟩, fun u => ?_⟩, (o1 c1).r f', r2 gg⟩⟩
      · show (0 : Int) ≤ 2000; omega
      · show (0 : Int) ≤ 40; omega
      · have : i < (0 : Int) := i1
        omega
      · show (0 : Int) ≤ 8; omega
      · have : j < (0 : Int) := j1
        omega
      · have : (0 : Int) = 1 := u
        omega
      · show (0 : Int) ≤ 700; omega
      · have : j < (0 : Int) := j1
        omega
      · have : i < (0 : Int) := i1
        omega
      · have : (0 : Int) = 1 := u
        omega
    · rw [er] at er'
      exact absurd (congrArg Prod.fst er').symm ny'
  · refine link_r w (o2 (ri.c w.1 w.qln f)) hn (fun g' δ' tk' f' f77 e1 _ er' r2 => ?_) (fun g' y' δ' tk' f' f77 e1 _ ny' er' r2 => ?_) (fun g' f' e1 nr _ => absurd rn nr)
    · rw [er] at er'
      exact absurd (congrArg Prod.fst er') ny
    · rw [er] at er'
      have ey : y = y' := congrArg Prod.fst er'
      have et : tk = tk' := congrArg (fun r : RD => r.2.1) er'
      subst ey; subst et
      refine ⟨e1, fun _ => by rw [f77, up_eq], kQ g' ⟨π, s, im, _, ⟨w'.1, w'.2.1, w'.2.2.1, w'.2.2.2.1, ⟨Int.le_refl (0 : Int), ?_⟩, fun j j0 j1 => ?_⟩, z, (o1 c1).r f', r2⟩⟩
      · show (0 : Int) ≤ 700; omega
      · have : j < (0 : Int) := j1
        omega
  · refine link_r w ri hn (fun g' δ' tk' f' f77 e1 rn _ _ => absurd rn nr) (fun g' y' δ' tk' f' f77 e1 rn _ _ _ => absurd rn nr) (fun g' f' e1 _ r2 => ⟨e1, fun u => absurd u (by decide), kQ g' ⟨π, s, im, t, w', z, ci.r f', r2⟩⟩)
