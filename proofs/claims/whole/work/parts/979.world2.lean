/-! the world once more: which exceptions there are -/
def kA (k : Nat) : Prop := k = 0
def kB (k : Nat) : Prop := k = 0 ∨ k = 1
def kI (k : Nat) : Prop := k = 1
theorem queryK {h : HP} {π : PL} {K : Int} {s : SD} {im : IM} {t : TX} {W : (Int → HP → Prop) → (Nat → HP → Prop) → Prop} {R : HP → (Int → HP → Prop) → Prop} {v2 : Int × Int} {ec : Nat → Int} {kX : Nat → Prop} {Q : HP → Prop} {e1 e2 : Nat}
    (w : WA π K s im t) (z : ZA π s im) (ci : CI h π s im t) (ri : RI h π s im t)
    (hc : ∀ P X, (∀ h' v, FrQC h h' → v2 = (0, v) → P v h') → (∀ h', FrQC h h' → v2 = (1, 0) → X e1 h') → (∀ h', FrQC h h' → v2 = (2, 0) → X e2 h') → W P X) (h1 : ec e1 = 1) (h2 : (kX e2 ∧ ec e2 = 2) ∨ v2.1 ≠ 2) (hk1 : kX e1)
    (hr : ∀ hh P, RI hh π s im t → (∀ h' y e v, OkR hh h' e → v2 = (e, v) → (e = 0 → y = v) → P y h') → R hh P) (kQ : ∀ h', IV h' (K + 1) → Q h') :
    W (fun x g => R (up g 77 8 0 (nrm x)) (Bk Q 0)) (fun k g => kX k ∧ R g (Bk Q (ec k))) := by
  have iv : ∀ g g' e, CI g π s im t → RI g π s im t → OkR g g' e → IV g' (K + 1) := fun g g' e c r o => ⟨π, s, im, t, w.mono (by omega), z, c.r o.1.rfr, o.ri w r⟩
  refine hc _ _ (fun g v f e => ?_) (fun g f e => ?_) (fun g f e => ?_)
  · have c1 := ci.q f
    have r1 := ri.c w.1 w.qln f.cm
    have c2 : CI (up g 77 8 0 (nrm v)) π s im t := c1.cg (fun k i hk => by rw [up_k (by unfold prC at hk; omega)])
    have r2 : RI (up g 77 8 0 (nrm v)) π s im t := r1.cgA (fun k hk => up_k (by omega))
    refine hr _ _ r2 (fun g' y e' v' o ev yv => ?_)
    rw [ev] at e
    have e0 : e' = 0 := congrArg Prod.fst e
    have ev' : v' = v := congrArg Prod.snd e
    refine ⟨by rw [o.2.2]; exact e0, fun _ => ?_, kQ g' (iv _ _ _ c2 r2 o)⟩
    rw [o.1.1 77 (by decide) (by decide) (by decide) (by decide) (by decide) (by decide) (by decide) (by decide) (by decide) (by decide), up_eq, yv e0, ev']
  · have c1 := ci.q f
    have r1 := ri.c w.1 w.qln f.cm
    refine ⟨hk1, hr _ _ r1 (fun g' y e' v' o ev yv => ?_)⟩
    rw [ev] at e
    have e0 : e' = 1 := congrArg Prod.fst e
    exact ⟨by rw [o.2.2, h1]; exact e0, fun u => by rw [h1] at u; omega, kQ g' (iv _ _ _ c1 r1 o)⟩
  · have c1 := ci.q f
    have r1 := ri.c w.1 w.qln f.cm
    rcases h2 with ⟨hk2, h2⟩ | h2
    · refine ⟨hk2, hr _ _ r1 (fun g' y e' v' o ev yv => ?_)⟩
      rw [ev] at e
      have e0 : e' = 2 := congrArg Prod.fst e
      exact ⟨by rw [o.2.2, h2]; exact e0, fun u => by rw [h2] at u; omega, kQ g' (iv _ _ _ c1 r1 o)⟩
    · rw [e] at h2; exact absurd rfl h2
theorem sq_count {h : HP} {K a : Int} {Q : HP → Prop} (iv : IV h K) (ha : inR a) (kQ : ∀ h', IV h' (K + 1) → Q h') : wX11_count 0 a h (fun x g => wX12_count 7 a (up g 77 8 0 (nrm x)) (Bk Q 0)) (fun k g => kA k ∧ wX12_count 7 a g (Bk Q (ecA k))) := by
  obtain ⟨π, s, im, t, w, z, ci, ri⟩ := iv
  have n2 : (countV π s t a).1 ≠ 2 := by
    unfold countV
    repeat' first | exact ne2_0 | exact ne2_1 | refine ne2_ite ?_ ?_
  exact queryK (kX := kA) (W := wX11_count 0 a h) (R := wX12_count 7 a) (v2 := countV π s t a) (ec := ecA) (e1 := 0) (e2 := 1) w z ci ri (fun P X k1 k2 k3 => count_c w ci ha k1 k2) rfl (Or.inr n2) rfl (fun g P r kk => count_r w r ha kk) kQ
theorem sq_of {h : HP} {K c a : Int} {Q : HP → Prop} (iv : IV h K) (hc : inR c) (ha : inR a) (kQ : ∀ h', IV h' (K + 1) → Q h') : wX11_of 0 c a h (fun x g => wX12_of 7 c a (up g 77 8 0 (nrm x)) (Bk Q 0)) (fun k g => kA k ∧ wX12_of 7 c a g (Bk Q (ecA k))) := by
  obtain ⟨π, s, im, t, w, z, ci, ri⟩ := iv
  have n2 : (ofV π s.1 c a).1 ≠ 2 := by
    unfold ofV
    repeat' first | exact ne2_0 | exact ne2_1 | refine ne2_ite ?_ ?_
  exact queryK (kX := kA) (W := wX11_of 0 c a h) (R := wX12_of 7 c a) (v2 := ofV π s.1 c a) (ec := ecA) (e1 := 0) (e2 := 1) w z ci ri (fun P X k1 k2 k3 => of_c (ci.lx w) hc ha k1 k2) rfl (Or.inr n2) rfl (fun g P r kk => of_r ⟨r.rx w, r.2.2.2.2⟩ hc ha kk) kQ
theorem sq_curve {h : HP} {K c kk a : Int} {Q : HP → Prop} (iv : IV h K) (hc : inR c) (hk : inR kk) (ha : inR a) (kQ : ∀ h', IV h' (K + 1) → Q h') : wX11_curve 0 c kk a h (fun x g => wX12_curve 7 c kk a (up g 77 8 0 (nrm x)) (Bk Q 0)) (fun k g => kA k ∧ wX12_curve 7 c kk a g (Bk Q (ecA k))) := by
  obtain ⟨π, s, im, t, w, z, ci, ri⟩ := iv
  have n2 : (curveV π s.1 c kk a).1 ≠ 2 := by
    unfold curveV
    repeat' first | exact ne2_0 | exact ne2_1 | refine ne2_ite ?_ ?_
  exact queryK (kX := kA) (W := wX11_curve 0 c kk a h) (R := wX12_curve 7 c kk a) (v2 := curveV π s.1 c kk a) (ec := ecA) (e1 := 0) (e2 := 1) w z ci ri (fun P X k1 k2 k3 => curve_c (ci.lx w) hc hk ha k1 k2) rfl (Or.inr n2) rfl (fun g P r kk => curve_r ⟨r.rx w, r.2.2.2.2⟩ hc hk ha kk) kQ
theorem sq_packet {h : HP} {K c i : Int} {Q : HP → Prop} (iv : IV h K) (hc : inR c) (hi : inR i) (kQ : ∀ h', IV h' (K + 1) → Q h') : wX11_packet 0 c i h (fun x g => wX12_packet 7 c i (up g 77 8 0 (nrm x)) (Bk Q 0)) (fun k g => kA k ∧ wX12_packet 7 c i g (Bk Q (ecA k))) := by
  obtain ⟨π, s, im, t, w, z, ci, ri⟩ := iv
  have n2 : (packetV π s.1 c i).1 ≠ 2 := by
    unfold packetV
    repeat' first | exact ne2_0 | exact ne2_1 | refine ne2_ite ?_ ?_
  exact queryK (kX := kA) (W := wX11_packet 0 c i h) (R := wX12_packet 7 c i) (v2 := packetV π s.1 c i) (ec := ecA) (e1 := 0) (e2 := 1) w z ci ri (fun P X k1 k2 k3 => packet_c (ci.lx w) hc hi k1 k2) rfl (Or.inr n2) rfl (fun g P r kk => packet_r ⟨r.rx w, r.2.2.2.2⟩ hc hi kk) kQ
theorem sq_due {h : HP} {K c a : Int} {Q : HP → Prop} (iv : IV h K) (hc : inR c) (ha : inR a) (kQ : ∀ h', IV h' (K + 1) → Q h') : wX11_due 0 c a h (fun x g => wX12_due 7 c a (up g 77 8 0 (nrm x)) (Bk Q 0)) (fun k g => kA k ∧ wX12_due 7 c a g (Bk Q (ecA k))) := by
  obtain ⟨π, s, im, t, w, z, ci, ri⟩ := iv
  have n2 : (dueV π s.1 c a).1 ≠ 2 := by
    unfold dueV
    repeat' first | exact ne2_0 | exact ne2_1 | refine ne2_ite ?_ ?_
  exact queryK (kX := kA) (W := wX11_due 0 c a h) (R := wX12_due 7 c a) (v2 := dueV π s.1 c a) (ec := ecA) (e1 := 0) (e2 := 1) w z ci ri (fun P X k1 k2 k3 => due_c (ci.lx w) hc ha k1 k2) rfl (Or.inr n2) rfl (fun g P r kk => due_r ⟨r.rx w, r.2.2.2.2⟩ hc ha kk) kQ
theorem sq_together {h : HP} {K a : Int} {Q : HP → Prop} (iv : IV h K) (ha : inR a) (kQ : ∀ h', IV h' (K + 1) → Q h') : wX11_together 0 a h (fun x g => wX12_together 7 a (up g 77 8 0 (nrm x)) (Bk Q 0)) (fun k g => kA k ∧ wX12_together 7 a g (Bk Q (ecA k))) := by
  obtain ⟨π, s, im, t, w, z, ci, ri⟩ := iv
  have n2 : (togV π s.1 a).1 ≠ 2 := by
    unfold togV
    repeat' first | exact ne2_0 | exact ne2_1 | refine ne2_ite ?_ ?_
  exact queryK (kX := kA) (W := wX11_together 0 a h) (R := wX12_together 7 a) (v2 := togV π s.1 a) (ec := ecA) (e1 := 0) (e2 := 1) w z ci ri (fun P X k1 k2 k3 => together_c (ci.lx w) ha k1 k2) rfl (Or.inr n2) rfl (fun g P r kk => together_r ⟨r.rx w, r.2.2.2.2⟩ ha kk) kQ
theorem sq_toGrant {h : HP} {K b d : Int} {Q : HP → Prop} (iv : IV h K) (hb : inR b) (hd : inR d) (kQ : ∀ h', IV h' (K + 1) → Q h') : wX11_toGrant 0 b d h (fun x g => wX12_toGrant 7 b d (up g 77 8 0 (nrm x)) (Bk Q 0)) (fun k g => kI k ∧ wX12_toGrant 7 b d g (Bk Q (ecI k))) := by
  obtain ⟨π, s, im, t, w, z, ci, ri⟩ := iv
  have n2 : (tgV π s.1 b d).1 ≠ 2 := by
    unfold tgV
    repeat' first | exact ne2_0 | exact ne2_1 | refine ne2_ite ?_ ?_
  exact queryK (kX := kI) (W := wX11_toGrant 0 b d h) (R := wX12_toGrant 7 b d) (v2 := tgV π s.1 b d) (ec := ecI) (e1 := 1) (e2 := 1) w z ci ri (fun P X k1 k2 k3 => toGrant_c (ci.lx w) hb hd k1 k2) rfl (Or.inr n2) rfl (fun g P r kk => toGrant_r ⟨r.rx w, r.2.2.2.2⟩ hb hd kk) kQ
theorem sq_bound {h : HP} {K c b : Int} {Q : HP → Prop} (iv : IV h K) (hc : inR c) (hb : inR b) (kQ : ∀ h', IV h' (K + 1) → Q h') : wX11_bound 0 c b h (fun x g => wX12_bound 7 c b (up g 77 8 0 (nrm x)) (Bk Q 0)) (fun k g => kB k ∧ wX12_bound 7 c b g (Bk Q (ecA k))) := by
  obtain ⟨π, s, im, t, w, z, ci, ri⟩ := iv
  exact queryK (kX := kB) (W := wX11_bound 0 c b h) (R := wX12_bound 7 c b) (v2 := boundV π s.1 c b) (ec := ecA) (e1 := 0) (e2 := 1) w z ci ri (fun P X k1 k2 k3 => bound_c (ci.lx w) hc hb k1 k2 k3) rfl (Or.inl ⟨Or.inr rfl, rfl⟩) (Or.inl rfl) (fun g P r kk => bound_r ⟨r.rx w, r.2.2.2.2⟩ hc hb kk) kQ
theorem sq_then {h : HP} {K c u a : Int} {Q : HP → Prop} (iv : IV h K) (hc : inR c) (hu : inR u) (ha : inR a) (kQ : ∀ h', IV h' (K + 1) → Q h') : wX11_then 0 c u a h (fun x g => wX12_then 7 c u a (up g 77 8 0 (nrm x)) (Bk Q 0)) (fun k g => kB k ∧ wX12_then 7 c u a g (Bk Q (ecA k))) := by
  obtain ⟨π, s, im, t, w, z, ci, ri⟩ := iv
  exact queryK (kX := kB) (W := wX11_then 0 c u a h) (R := wX12_then 7 c u a) (v2 := thenV π s.1 c u a) (ec := ecA) (e1 := 0) (e2 := 1) w z ci ri (fun P X k1 k2 k3 => then_c (ci.lx w) w.2.1.1.2 hc hu ha k1 k2 k3) rfl (Or.inl ⟨Or.inr rfl, rfl⟩) (Or.inl rfl) (fun g P r kk => then_r ⟨r.rx w, r.2.2.2.2⟩ w.2.1.1.2 hc hu ha kk) kQ
theorem sq_next {h : HP} {K i a : Int} {Q : HP → Prop} (iv : IV h K) (hi : inR i) (ha : inR a) (kQ : ∀ h', IV h' (K + 1) → Q h') : wX11_next 0 i a h (fun x g => wX12_next 7 i a (up g 77 8 0 (nrm x)) (Bk Q 0)) (fun k g => kB k ∧ wX12_next 7 i a g (Bk Q (ecA k))) := by
  obtain ⟨π, s, im, t, w, z, ci, ri⟩ := iv
  exact queryK (kX := kB) (W := wX11_next 0 i a h) (R := wX12_next 7 i a) (v2 := nextV π s.1 i a) (ec := ecA) (e1 := 0) (e2 := 1) w z ci ri (fun P X k1 k2 k3 => next_c (ci.lx w) w.2.1.1.2 hi ha k1 k2 k3) rfl (Or.inl ⟨Or.inr rfl, rfl⟩) (Or.inl rfl) (fun g P r kk => next_r ⟨r.rx w, r.2.2.2.2⟩ w.2.1.1.2 hi ha kk) kQ
theorem sq_waits {h : HP} {K c : Int} {Q : HP → Prop} (iv : IV h K) (hc : inR c) (kQ : ∀ h', IV h' (K + 1) → Q h') : wX11_waits 0 c h (fun x g => wX12_waits 7 c (up g 77 8 0 (nrm x)) (Bk Q 0)) (fun k g => kA k ∧ wX12_waits 7 c g (Bk Q (ecA k))) := by
  obtain ⟨π, s, im, t, w, z, ci, ri⟩ := iv
  have n2 : (waitsV π s.1 c).1 ≠ 2 := by
    unfold waitsV
    repeat' first | exact ne2_0 | exact ne2_1 | refine ne2_ite ?_ ?_
  exact queryK (kX := kA) (W := wX11_waits 0 c h) (R := wX12_waits 7 c) (v2 := waitsV π s.1 c) (ec := ecA) (e1 := 0) (e2 := 1) w z ci ri (fun P X k1 k2 k3 => waits_c (ci.lx w) w.2.1.1.2 hc k1 k2) rfl (Or.inr n2) rfl (fun g P r kk => waits_r ⟨r.rx w, r.2.2.2.2⟩ w.2.1.1.2 hc kk) kQ
theorem sq_longest {h : HP} {K c n : Int} {Q : HP → Prop} (iv : IV h K) (hc : inR c) (hn : inR n) (kQ : ∀ h', IV h' (K + 1) → Q h') : wX11_longest 0 c n h (fun x g => wX12_longest 7 c n (up g 77 8 0 (nrm x)) (Bk Q 0)) (fun k g => kB k ∧ wX12_longest 7 c n g (Bk Q (ecA k))) := by
  obtain ⟨π, s, im, t, w, z, ci, ri⟩ := iv
  exact queryK (kX := kB) (W := wX11_longest 0 c n h) (R := wX12_longest 7 c n) (v2 := longestV π s.1 c n) (ec := ecA) (e1 := 0) (e2 := 1) w z ci ri (fun P X k1 k2 k3 => longest_c (ci.lx w) w.2.1.1.2 hc hn k1 k2 k3) rfl (Or.inl ⟨Or.inr rfl, rfl⟩) (Or.inl rfl) (fun g P r kk => longest_r ⟨r.rx w, r.2.2.2.2⟩ w.2.1.1.2 hc hn kk) kQ
theorem sq_toShare {h : HP} {K c b n : Int} {Q : HP → Prop} (iv : IV h K) (hc : inR c) (hb : inR b) (hn : inR n) (kQ : ∀ h', IV h' (K + 1) → Q h') : wX11_toShare 0 c b n h (fun x g => wX12_toShare 7 c b n (up g 77 8 0 (nrm x)) (Bk Q 0)) (fun k g => kB k ∧ wX12_toShare 7 c b n g (Bk Q (ecA k))) := by
  obtain ⟨π, s, im, t, w, z, ci, ri⟩ := iv
  exact queryK (kX := kB) (W := wX11_toShare 0 c b n h) (R := wX12_toShare 7 c b n) (v2 := toShareV π s.1 c b n) (ec := ecA) (e1 := 0) (e2 := 1) w z ci ri (fun P X k1 k2 k3 => toShare_c (ci.lx w) w.2.1.1.2 hc hb hn k1 k2 k3) rfl (Or.inl ⟨Or.inr rfl, rfl⟩) (Or.inl rfl) (fun g P r kk => toShare_r ⟨r.rx w, r.2.2.2.2⟩ w.2.1.1.2 hc hb hn kk) kQ
theorem sq_toCap {h : HP} {K c l n : Int} {Q : HP → Prop} (iv : IV h K) (hc : inR c) (hl : inR l) (hn : inR n) (kQ : ∀ h', IV h' (K + 1) → Q h') : wX11_toCap 0 c l n h (fun x g => wX12_toCap 7 c l n (up g 77 8 0 (nrm x)) (Bk Q 0)) (fun k g => kB k ∧ wX12_toCap 7 c l n g (Bk Q (ecA k))) := by
  obtain ⟨π, s, im, t, w, z, ci, ri⟩ := iv
  exact queryK (kX := kB) (W := wX11_toCap 0 c l n h) (R := wX12_toCap 7 c l n) (v2 := toCapV π s.1 c l n) (ec := ecA) (e1 := 0) (e2 := 1) w z ci ri (fun P X k1 k2 k3 => toCap_c (ci.lx w) w.2.1.1.2 hc hl hn k1 k2 k3) rfl (Or.inl ⟨Or.inr rfl, rfl⟩) (Or.inl rfl) (fun g P r kk => toCap_r ⟨r.rx w, r.2.2.2.2⟩ w.2.1.1.2 hc hl hn kk) kQ
theorem sq_blocked {h : HP} {K c b : Int} {Q : HP → Prop} (iv : IV h K) (hc : inR c) (hb : inR b) (kQ : ∀ h', IV h' (K + 1) → Q h') : wX11_blocked 0 c b h (fun x g => wX12_blocked 7 c b (up g 77 8 0 (nrm x)) (Bk Q 0)) (fun k g => kA k ∧ wX12_blocked 7 c b g (Bk Q (ecA k))) := by
  obtain ⟨π, s, im, t, w, z, ci, ri⟩ := iv
  have n2 : (blockedV π s.1 c b).1 ≠ 2 := by
    unfold blockedV
    repeat' first | exact ne2_0 | exact ne2_1 | refine ne2_ite ?_ ?_
  exact queryK (kX := kA) (W := wX11_blocked 0 c b h) (R := wX12_blocked 7 c b) (v2 := blockedV π s.1 c b) (ec := ecA) (e1 := 0) (e2 := 1) w z ci ri (fun P X k1 k2 k3 => blocked_c (ci.lx w) w.2.1.1.2 hc hb k1 k2) rfl (Or.inr n2) rfl (fun g P r kk => blocked_r ⟨r.rx w, r.2.2.2.2⟩ w.2.1.1.2 hc hb kk) kQ
theorem sq_spread {h : HP} {K c n : Int} {Q : HP → Prop} (iv : IV h K) (hc : inR c) (hn : inR n) (kQ : ∀ h', IV h' (K + 1) → Q h') : wX11_spread 0 c n h (fun x g => wX12_spread 7 c n (up g 77 8 0 (nrm x)) (Bk Q 0)) (fun k g => kB k ∧ wX12_spread 7 c n g (Bk Q (ecA k))) := by
  obtain ⟨π, s, im, t, w, z, ci, ri⟩ := iv
  exact queryK (kX := kB) (W := wX11_spread 0 c n h) (R := wX12_spread 7 c n) (v2 := spreadV π s.1 c n) (ec := ecA) (e1 := 0) (e2 := 1) w z ci ri (fun P X k1 k2 k3 => spreadQ_c (ci.lx w) w.2.1.1.2 hc hn k1 k2 k3) rfl (Or.inl ⟨Or.inr rfl, rfl⟩) (Or.inl rfl) (fun g P r kk => spreadQ_r ⟨r.rx w, r.2.2.2.2⟩ w.2.1.1.2 hc hn kk) kQ
theorem sq_other {h : HP} {K a : Int} {Q : HP → Prop} (iv : IV h K) (ha : inR a) (kQ : ∀ h', IV h' (K + 1) → Q h') : wX11_other 0 a h (fun x g => wX12_other 7 a (up g 77 8 0 (nrm x)) (Bk Q 0)) (fun k g => kA k ∧ wX12_other 7 a g (Bk Q (ecA k))) := by
  obtain ⟨π, s, im, t, w, z, ci, ri⟩ := iv
  have n2 : (otherV π s.1 s.2.2.2.1 s.2.2.2.2 a).1 ≠ 2 := by
    unfold otherV
    repeat' first | exact ne2_0 | exact ne2_1 | refine ne2_ite ?_ ?_
  exact queryK (kX := kA) (W := wX11_other 0 a h) (R := wX12_other 7 a) (v2 := otherV π s.1 s.2.2.2.1 s.2.2.2.2 a) (ec := ecA) (e1 := 0) (e2 := 1) w z ci ri (fun P X k1 k2 k3 => other_c (ci.lx w) w.2.1.1.2 z.1.1 ci.2.1.2.2 w.2.1.2.2.2.2 ha k1 k2) rfl (Or.inr n2) rfl (fun g P r kk => other_r ⟨r.rx w, r.2.2.2.2⟩ w.2.1.1.2 r.2.1.2.2.1 w.2.1.2.2.2.1 r.2.1.2.2.2 w.2.1.2.2.2.2 ha kk) kQ
theorem sq_look {h : HP} {K a : Int} {Q : HP → Prop} (iv : IV h K) (ha : inR a) (kQ : ∀ h', IV h' (K + 1) → Q h') : wX11_look 0 a h (fun x g => wX12_look 7 a (up g 77 8 0 (nrm x)) (Bk Q 0)) (fun k g => kA k ∧ wX12_look 7 a g (Bk Q (ecA k))) := by
  obtain ⟨π, s, im, t, w, z, ci, ri⟩ := iv
  have n2 : (lookV π s.1 s.2.2.2.1 s.2.2.2.2 a).1 ≠ 2 := by
    unfold lookV
    repeat' first | exact ne2_0 | exact ne2_1 | refine ne2_ite ?_ ?_
  exact queryK (kX := kA) (W := wX11_look 0 a h) (R := wX12_look 7 a) (v2 := lookV π s.1 s.2.2.2.1 s.2.2.2.2 a) (ec := ecA) (e1 := 0) (e2 := 1) w z ci ri (fun P X k1 k2 k3 => look_c (ci.lx w) w.2.1.1.2 z.1.1 ci.2.1.2.2 w.2.1.2.2.2.2 ha k1 k2) rfl (Or.inr n2) rfl (fun g P r kk => look_r ⟨r.rx w, r.2.2.2.2⟩ w.2.1.1.2 r.2.1.2.2.1 w.2.1.2.2.2.1 r.2.1.2.2.2 w.2.1.2.2.2.2 ha kk) kQ
theorem sq_storms {h : HP} {K f n tn mo : Int} {Q : HP → Prop} (iv : IV h K) (hf : inR f) (hn : inR n) (htn : inR tn) (hmo : inR mo) (kQ : ∀ h', IV h' (K + 1) → Q h') : wX11_storms 0 f n tn mo h (fun x g => wX12_storms 7 f n tn mo (up g 77 8 0 (nrm x)) (Bk Q 0)) (fun k g => kB k ∧ wX12_storms 7 f n tn mo g (Bk Q (ecA k))) := by
  obtain ⟨π, s, im, t, w, z, ci, ri⟩ := iv
  exact queryK (kX := kB) (W := wX11_storms 0 f n tn mo h) (R := wX12_storms 7 f n tn mo) (v2 := stormsV π s.1 f n tn mo) (ec := ecA) (e1 := 0) (e2 := 1) w z ci ri (fun P X k1 k2 k3 => storms_c (ci.lx w) w.2.1.1.2 hf hn htn hmo k1 k2 k3) rfl (Or.inl ⟨Or.inr rfl, rfl⟩) (Or.inl rfl) (fun g P r kk => storms_r ⟨r.rx w, r.2.2.2.2⟩ w.2.1.1.2 hf hn htn hmo kk) kQ
theorem sq_years {h : HP} {K sd n a : Int} {Q : HP → Prop} (iv : IV h K) (hsd : inR sd) (hn : inR n) (ha : inR a) (kQ : ∀ h', IV h' (K + 1) → Q h') : wX11_years 0 sd n a h (fun x g => wX12_years 7 sd n a (up g 77 8 0 (nrm x)) (Bk Q 0)) (fun k g => kB k ∧ wX12_years 7 sd n a g (Bk Q (ecA k))) := by
  obtain ⟨π, s, im, t, w, z, ci, ri⟩ := iv
  exact queryK (kX := kB) (W := wX11_years 0 sd n a h) (R := wX12_years 7 sd n a) (v2 := yearsV π s.1 sd n a) (ec := ecA) (e1 := 0) (e2 := 1) w z ci ri (fun P X k1 k2 k3 => years_c (ci.lx w) w.2.1.1.2 hn ha k1 k2 k3) rfl (Or.inl ⟨Or.inr rfl, rfl⟩) (Or.inl rfl) (fun g P r kk => years_r ⟨r.rx w, r.2.2.2.2⟩ w.2.1.1.2 hn ha kk) kQ
theorem sq_told {h : HP} {K c i : Int} {Q : HP → Prop} (iv : IV h K) (hc : inR c) (hi : inR i) (kQ : ∀ h', IV h' (K + 1) → Q h') : wX11_told 0 c i h (fun x g => wX12_told 7 c i (up g 77 8 0 (nrm x)) (Bk Q 0)) (fun k g => kA k ∧ wX12_told 7 c i g (Bk Q (ecA k))) := by
  obtain ⟨π, s, im, t, w, z, ci, ri⟩ := iv
  have n2 : (toldV π s.1 c i).1 ≠ 2 := by
    unfold toldV
    repeat' first | exact ne2_0 | exact ne2_1 | refine ne2_ite ?_ ?_
  exact queryK (kX := kA) (W := wX11_told 0 c i h) (R := wX12_told 7 c i) (v2 := toldV π s.1 c i) (ec := ecA) (e1 := 0) (e2 := 1) w z ci ri (fun P X k1 k2 k3 => told_c (ci.lx w) hc hi k1 k2) rfl (Or.inr n2) rfl (fun g P r kk => told_r ⟨r.rx w, r.2.2.2.2⟩ hc hi kk) kQ
theorem sq_link {h : HP} {K n : Int} {Q : HP → Prop} (iv : IV h K) (hK : 0 ≤ K) (hn : inR n) (kQ : ∀ h', IV h' (K + 1) → Q h') : wX11_link 0 n h (fun x g => wX12_link 7 n (up g 77 8 0 (nrm x)) (Bk Q 0)) (fun k g => kI k ∧ wX12_link 7 n g (Bk Q (ecI k))) := by
  obtain ⟨π, s, im, t, w, z, ci, ri⟩ := iv
  have w' := w.mono (show K ≤ K + 1 by omega)
  have o1 : ∀ {g : HP} {π' : PL} {s' : SD} {im' : IM} {t' : TX} {v : Int}, CI g π' s' im' t' → CI (up g 77 8 0 v) π' s' im' t' := fun c => c.cg (fun k i hk => by rw [up_k (by unfold prC at hk; omega)])
  have o2 : ∀ {g : HP} {v : Int}, RI g π s im t → RI (up g 77 8 0 v) π s im t := fun r => r.cgA (fun k hk => up_k (by omega))
  refine link_c w ci hn (fun g δ gg tk f rn er dk c1 => ?_) (fun g y δ tk f rn ny er c1 => ?_) (fun nr => ?_)
  · refine link_r w (o2 (ri.c w.1 w.qln f)) hn (fun g' δ' tk' f' f77 e1 _ er' r2 => ?_) (fun g' y' δ' tk' f' f77 e1 _ ny' er' r2 => ?_) (fun g' f' e1 nr _ => absurd rn nr)
    · rw [er] at er'
      have ed : δ = δ' := congrArg (fun r : RD => r.2.2) er'
      subst ed
      refine ⟨e1, fun _ => by rw [f77, up_eq], kQ g' ⟨δ, _, _, _, ⟨dk.1, ⟨⟨st0_inv dk (by omega), ?_⟩, ⟨Int.le_refl (0 : Int), ?_⟩, fun i i0 i1 => ?_, ⟨Int.le_refl (0 : Int), ?_⟩, fun j j0 j1 => ?_⟩, Or.inl rfl, fun u => ?_, ⟨Int.le_refl (0 : Int), ?_⟩, fun j j0 j1 => ?_⟩, ⟨⟨fun f0 _ _ => rfl, fun i i0 i1 => ?_⟩, fun u => ?_⟩, (o1 c1).r f', r2 gg⟩⟩
      · show (0 : Int) ≤ 2000; omega
      · show (0 : Int) ≤ 40; omega
      · have : i < (0 : Int) := i1
        omega
      · show (0 : Int) ≤ 8; omega
      · have : j < (0 : Int) := j1
        omega
      · have : (0 : Int) = 1 := u
        omega
      · show (0 : Int) ≤ 700; omega
      · have : j < (0 : Int) := j1
        omega
      · have : i < (0 : Int) := i1
        omega
      · have : (0 : Int) = 1 := u
        omega
    · rw [er] at er'
      exact absurd (congrArg Prod.fst er').symm ny'
  · refine link_r w (o2 (ri.c w.1 w.qln f)) hn (fun g' δ' tk' f' f77 e1 _ er' r2 => ?_) (fun g' y' δ' tk' f' f77 e1 _ ny' er' r2 => ?_) (fun g' f' e1 nr _ => absurd rn nr)
    · rw [er] at er'
      exact absurd (congrArg Prod.fst er') ny
    · rw [er] at er'
      have ey : y = y' := congrArg Prod.fst er'
      have et : tk = tk' := congrArg (fun r : RD => r.2.1) er'
      subst ey; subst et
      refine ⟨e1, fun _ => by rw [f77, up_eq], kQ g' ⟨π, s, im, _, ⟨w'.1, w'.2.1, w'.2.2.1, w'.2.2.2.1, ⟨Int.le_refl (0 : Int), ?_⟩, fun j j0 j1 => ?_⟩, z, (o1 c1).r f', r2⟩⟩
      · show (0 : Int) ≤ 700; omega
      · have : j < (0 : Int) := j1
        omega
  · refine ⟨rfl, ?_⟩
    refine link_r w ri hn (fun g' δ' tk' f' f77 e1 rn _ _ => absurd rn nr) (fun g' y' δ' tk' f' f77 e1 rn _ _ _ => absurd rn nr) (fun g' f' e1 _ r2 => ⟨e1, fun u => absurd u (by decide), kQ g' ⟨π, s, im, t, w', z, ci.r f', r2⟩⟩)
