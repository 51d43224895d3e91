/-! other, look: the reference goes through all -/
def AcR (h : HP) (π : PL) (σ : ST) (a : AC) : Prop := h 12 7 43 = a.1 ∧ h 12 7 44 = a.2.1 ∧ ∀ c, 0 ≤ c → c < π 0 0 → h 68 7 c = a.2.2.1 c ∧ (∀ i, 0 ≤ i → i < a.2.2.1 c → 0 ≤ h 69 7 (512 * c + i) ∧ h 69 7 (512 * c + i) ≤ 100000) ∧ ∀ v, a.2.2.2 c v ↔ ∃ i, 0 ≤ i ∧ i < a.2.2.1 c ∧ h 69 7 (512 * c + i) = σ 1 c 0 + v
theorem AcR.fr {h h' : HP} {π : PL} {σ : ST} {a : AC} (q : AcR h π σ a) (f : FrI h h') : AcR h' π σ a := by
  unfold AcR at *
  rw [f.2 43 (by decide) (by decide) (by decide), f.2 44 (by decide) (by decide) (by decide), f.1 68 (by decide) (by decide) (by decide) (by decide) (by decide) (by decide), f.1 69 (by decide) (by decide) (by decide) (by decide) (by decide) (by decide)]; exact q
def AcU (h : HP) (σ : ST) (c : Int) (u : Int) (V : Int → Prop) : Prop := h 68 7 c = u ∧ (∀ i, 0 ≤ i → i < u → 0 ≤ h 69 7 (512 * c + i) ∧ h 69 7 (512 * c + i) ≤ 100000) ∧ ∀ v, V v ↔ ∃ i, 0 ≤ i ∧ i < u ∧ h 69 7 (512 * c + i) = σ 1 c 0 + v
theorem putSent_r {h : HP} {π : PL} {K f z : Int} {σ : ST} {a : AC} {P : HP → Prop} (x : RX h π K σ) (hU : ∀ c, 0 ≤ a.2.2.1 c ∧ a.2.2.1 c ≤ 511)
    (h67 : ∀ c, 0 ≤ c → c < π 0 0 → h 67 7 c = σ 1 c 0 + sntA π σ f z c ∧ 0 ≤ h 67 7 c ∧ h 67 7 c ≤ 100000)
    (q : ∀ c, 0 ≤ c → c < π 0 0 → AcU h σ c (a.2.2.1 c) (a.2.2.2 c))
    (k : ∀ h', (∀ k, k ≠ 68 → k ≠ 69 → h' k = h k) → (∀ c, 0 ≤ c → c < π 0 0 → AcU h' σ c ((putO π σ f z a).2.2.1 c) ((putO π σ f z a).2.2.2 c)) → P h') : wX12_putSent 7 h P := by
  have n12 := x.1.1.2.1
  have n0 := x.1.1.1
  have pu : ∀ c, (putO π σ f z a).2.2.1 c = @ite Int (a.2.2.2 c (sntA π σ f z c)) (Classical.propDecidable _) (a.2.2.1 c) (a.2.2.1 c + 1) := fun _ => rfl
  have pv : ∀ c v, (putO π σ f z a).2.2.2 c v ↔ (a.2.2.2 c v ∨ v = sntA π σ f z c) := fun _ _ => Iff.rfl
  generalize putO π σ f z a = a' at *
  unfold wX12_putSent
  have find : ∀ (c : Int) (hh : HP) (Ko : Int → Prop), 0 ≤ c → c < π 0 0 → (∀ k, k ≠ 68 → k ≠ 69 → hh k = h k) → AcU hh σ c (a.2.2.1 c) (a.2.2.2 c) → (∀ y, (y = 0 ∨ y = 1) → (y = 1 ↔ ¬ a.2.2.2 c (sntA π σ f z c)) → Ko y) → ∃ g, wX12_putSent_23 7 c (512 * c) hh Ko g 1 0 := by
    intro c hh Ko c0 c1 fr ⟨q1, q2, q3⟩ kk
    have u := hU c
    have w67 := h67 c c0 c1
    have e67 : hh 67 7 c = h 67 7 c := by rw [fr 67 (by decide) (by decide)]
    have loop : ∀ (d : Nat) (i y : Int), (a.2.2.1 c - i).toNat = d → 0 ≤ i → i ≤ a.2.2.1 c → (y = 0 ∨ y = 1) → (y = 1 ↔ ∀ j, 0 ≤ j → j < i → hh 69 7 (512 * c + j) ≠ h 67 7 c) → wX12_putSent_23 7 c (512 * c) hh Ko (d + 1) y i := by
      intro d
      induction d with
      | zero =>
        intro i y hd i0 i1 hy hq
        have e : i = a.2.2.1 c := by omega
        rw [wX12_putSent_23, q1]
        refine ⟨by omega, by omega, by omega, fun _ => kk y hy ?_, fun w => absurd (by omega) w⟩
        rw [hq, q3, ← w67.1, e]
        exact ⟨fun s => fun ⟨j, j0, j1, j2⟩ => s j j0 j1 j2, fun s j j0 j1 j2 => s ⟨j, j0, j1, j2⟩⟩
      | succ d ih =>
        intro i y hd i0 i1 hy hq
        have hd1 : (a.2.2.1 c - (i + 1)).toNat = d := by omega
        have r := q2 i i0 (by omega)
        rw [wX12_putSent_23, q1, e67]
        refine ⟨by omega, by omega, by omega, fun w => absurd w (by omega), fun _ => ⟨⟨by omega, fun _ => ⟨by omega, by omega, by omega, by omega⟩⟩, fun t13 h13 => ?_⟩⟩
        have split : (∀ j, 0 ≤ j → j < i + 1 → hh 69 7 (512 * c + j) ≠ h 67 7 c) ↔ (∀ j, 0 ≤ j → j < i → hh 69 7 (512 * c + j) ≠ h 67 7 c) ∧ hh 69 7 (512 * c + i) ≠ h 67 7 c := by
          refine ⟨fun s => ⟨fun j j0 j1 => s j j0 (by omega), s i i0 (by omega)⟩, fun s j j0 j1 => ?_⟩
          by_cases w : j = i
          · rw [w]; exact s.2
          · exact s.1 j j0 (by omega)
        refine ih (i + 1) t13 hd1 (by omega) (by omega) ?_ ?_
        · by_cases w : y = 0
          · rw [h13.1 w]; omega
          · by_cases v : hh 69 7 (512 * c + i) = h 67 7 c
            · rw [(h13.2 w).1 v]; omega
            · rw [(h13.2 w).2 v]; omega
        · rw [split, ← hq]
          by_cases w : y = 0
          · rw [h13.1 w]
            exact ⟨fun s => by omega, fun s => by omega⟩
          · have y1 : y = 1 := by rcases hy with s | s; exact absurd s w; exact s
            by_cases v : hh 69 7 (512 * c + i) = h 67 7 c
            · rw [(h13.2 w).1 v]
              exact ⟨fun s => by omega, fun s => absurd v s.2⟩
            · rw [(h13.2 w).2 v]
              exact ⟨fun _ => ⟨y1, v⟩, fun _ => rfl⟩
    exact ⟨_, loop _ 0 1 rfl (by omega) (by omega) (Or.inr rfl) ⟨fun _ j j0 j1 => by omega, fun _ => rfl⟩⟩
  have loop : ∀ (d : Nat) (i : Int) (hh : HP), (π 0 0 - i).toNat = d → 0 ≤ i → i ≤ π 0 0 → (∀ k, k ≠ 68 → k ≠ 69 → hh k = h k) →
      (∀ c, i ≤ c → c < π 0 0 → AcU hh σ c (a.2.2.1 c) (a.2.2.2 c)) → (∀ c, 0 ≤ c → c < i → AcU hh σ c (a'.2.2.1 c) (a'.2.2.2 c)) → wX12_putSent_2 7 (fun h32 => P h32) (d + 1) i hh := by
    intro d
    induction d with
    | zero =>
      intro i hh hd i0 i1 fr qo qn
      have e : i = π 0 0 := by omega
      subst e
      rw [wX12_putSent_2, fr 49 (by decide) (by decide), x.2.1.1.1]
      exact ⟨by omega, by omega, fun _ => k hh fr qn, fun w => absurd (Int.le_refl _) w⟩
    | succ d ih =>
      intro i hh hd i0 i1 fr qo qn
      have hd1 : (π 0 0 - (i + 1)).toNat = d := by omega
      have o := qo i (Int.le_refl _) (by omega)
      have u := hU i
      have w67 := h67 i i0 (by omega)
      have e67 : hh 67 7 i = h 67 7 i := by rw [fr 67 (by decide) (by decide)]
      rw [wX12_putSent_2, fr 49 (by decide) (by decide), x.2.1.1.1]
      refine ⟨by omega, by omega, fun w => absurd w (by omega), fun _ => find i hh _ i0 (by omega) fr o (fun y hy hq => ⟨by omega, fun w => ?_, fun w => ?_⟩)⟩
      · have hv : ¬ a.2.2.2 i (sntA π σ f z i) := hq.mp (by omega)
        unfold wX12_putSent_104
        rw [o.1, e67]
        refine ⟨by omega, by omega, by omega, fun h26 e26 => ⟨by omega, by omega, fun h29 e29 => ?_⟩⟩
        have g68 : ∀ c, h29 68 7 c = if c = i then a.2.2.1 i + 1 else hh 68 7 c := by
          intro c
          rw [e29, up_ji, e26, up_k (by decide), o.1]
        have g69 : ∀ j, h29 69 7 j = if j = 512 * i + a.2.2.1 i then h 67 7 i else hh 69 7 j := by
          intro j
          rw [e29, up_k (by decide), e26, up_ji]
        have other : ∀ c U V, 0 ≤ c → c < π 0 0 → c ≠ i → 0 ≤ U → U ≤ 512 → AcU hh σ c U V → AcU h29 σ c U V := by
          intro c U V c0 c1 ne U0 U1 ⟨r1, r2, r3⟩
          have e : ∀ j, 0 ≤ j → j < U → h29 69 7 (512 * c + j) = hh 69 7 (512 * c + j) := fun j j0 j1 => by rw [g69, if_neg (by omega)]
          refine ⟨by rw [g68, if_neg ne]; exact r1, fun j j0 j1 => by rw [e j j0 j1]; exact r2 j j0 j1, fun v => ?_⟩
          rw [r3]
          exact ⟨fun ⟨j, j0, j1, j2⟩ => ⟨j, j0, j1, by rw [e j j0 j1]; exact j2⟩, fun ⟨j, j0, j1, j2⟩ => ⟨j, j0, j1, by rw [← e j j0 j1]; exact j2⟩⟩
        refine ih (i + 1) h29 hd1 (by omega) (by omega) (fun k k1 k2 => by rw [e29, up_k k1, e26, up_k k2]; exact fr k k1 k2) (fun c c0 c1 => ?_) (fun c c0 c1 => ?_)
        · have := hU c
          exact other c _ _ (by omega) c1 (by omega) (by omega) (by omega) (qo c (by omega) c1)
        · by_cases y2 : c = i
          · subst y2
            rw [pu, if_neg hv]
            obtain ⟨r1, r2, r3⟩ := o
            refine ⟨by rw [g68, if_pos rfl], fun j j0 j1 => ?_, fun v => ?_⟩
            · rw [g69]
              by_cases w2 : j = a.2.2.1 c
              · rw [if_pos (by omega)]; exact w67.2
              · rw [if_neg (by omega)]; exact r2 j j0 (by omega)
            · rw [pv, r3]
              constructor
              · rintro (⟨j, j0, j1, j2⟩ | w2)
                · exact ⟨j, j0, by omega, by rw [g69, if_neg (by omega)]; exact j2⟩
                · exact ⟨a.2.2.1 c, by omega, by omega, by rw [g69, if_pos rfl, w2]; exact w67.1⟩
              · rintro ⟨j, j0, j1, j2⟩
                rw [g69] at j2
                by_cases w2 : j = a.2.2.1 c
                · rw [if_pos (by omega)] at j2
                  right
                  have := w67.1
                  omega
                · rw [if_neg (by omega)] at j2
                  exact Or.inl ⟨j, j0, by omega, j2⟩
          · have e := qn c c0 (by omega)
            have U := hU c
            have U' : 0 ≤ a'.2.2.1 c ∧ a'.2.2.1 c ≤ 512 := by
              rw [pu]
              split <;> omega
            exact other c _ _ c0 (by omega) y2 U'.1 U'.2 e
      · have hv : a.2.2.2 i (sntA π σ f z i) := by
          by_cases w2 : a.2.2.2 i (sntA π σ f z i)
          · exact w2
          · have := hq.mpr w2; omega
        unfold wX12_putSent_104
        refine ih (i + 1) hh hd1 (by omega) (by omega) fr (fun c c0 c1 => qo c (by omega) c1) (fun c c0 c1 => ?_)
        by_cases y2 : c = i
        · subst y2
          rw [pu, if_pos hv]
          refine ⟨o.1, o.2.1, fun v => ?_⟩
          rw [pv, ← o.2.2]
          exact ⟨fun s => by rcases s with s | s; exact s; rw [s]; exact hv, fun s => Or.inl s⟩
        · exact qn c c0 (by omega)
  exact ⟨_, loop _ 0 h rfl (by omega) (by omega) (fun _ _ _ => rfl) q (fun c c0 c1 => by omega)⟩
/-- as the loops have it -/
def OtR (h0 h : HP) (π : PL) (σ : ST) (a : AC) : Prop := FrQR h0 h ∧ FrS h0 h ∧ IdleR h ∧ h 12 7 1 = h0 12 7 1 ∧ AcR h π σ a
theorem RowR.siz {r r' : Int → Int} {π : PL} {σ : ST} {f z : Int} (hp : PlanOK π) (q : RowR r π σ) (hq : QLn π σ) (f0 : 0 ≤ f) (f1 : f < π 0 1) (er : ∀ j, r' j = if j = 3091 + f then z else r j) : RowR r' π (sizA σ f z) := by
  have n12 := hp.1.2.1
  have n8 := hp.2.1
  have g : ∀ k, k ≠ 8 → sizA σ f z k = σ k := fun k hk => sizA_k hk
  have e : ∀ j, j < 3091 → r' j = r j := fun j hj => by rw [er, if_neg (by omega)]
  refine q.gen hp.1 (fun c i c0 c1 hi => e _ (by omega)) ?_ (fun f' f0' f1' => ?_) (fun b b0 b1 => ?_) (fun b i b0 b1 i0 i1 => ?_) (g 9 (by decide)) (g 10 (by decide)) (g 11 (by decide)) (g 12 (by decide)) (g 13 (by decide)) (fun s s0 s1 => by rw [cur_eq (g 1 (by decide)) (g 2 (by decide))]; exact Int.le_refl _) (by rw [g 0 (by decide)]; exact Int.le_refl _)
  · rw [e 3084 (by omega), e 3085 (by omega), e 3086 (by omega), e 3087 (by omega), e 3088 (by omega), e 3089 (by omega), e 3090 (by omega), g 0 (by decide), g 4 (by decide)]; exact q.1
  · rw [er]
    unfold sizA
    by_cases y : f' = f
    · subst y; rw [if_pos rfl, up_eq]
    · rw [if_neg (by omega), up_i y]; exact q.2.1 f' f0' f1'
  · rw [e (257 * b + 12) (by omega), e (257 * b + 13) (by omega), e (257 * b + 14) (by omega), e (257 * b + 15) (by omega), e (257 * b + 16) (by omega), e (257 * b + 17) (by omega), g 1 (by decide), g 2 (by decide), g 3 (by decide), g 4 (by decide), g 5 (by decide), g 6 (by decide)]
    exact (q.2.2 b b0 b1).1
  · have i1' : i < σ 6 b 0 := by rw [g 6 (by decide)] at i1; exact i1
    have qb := hq b b0 b1
    rw [e _ (by omega), g 7 (by decide)]; exact (q.2.2 b b0 b1).2.1 i i0 i1'
theorem tellO_r {h : HP} {π : PL} {K m : Int} {nt : PL} {σ : ST} {P : HP → Prop} (x : RX h π K σ) (ii : IdleR h) (hT : σ 0 0 0 ≤ 2000) (em : h 12 7 38 = m) (m8 : 0 ≤ m ∧ m ≤ 8) (hN : NoteR h 64 m nt) (ok : noteOK π m nt)
    (k : ∀ h', OtR h h' π σ (allO π σ m nt (π 0 1).toNat) → P h') : wX12_tellOthers 7 h P := by
  have hp := x.1
  have n8 := hp.2.1
  have n12 := hp.1.2.1
  have n0 := hp.1.1
  have inv := x.2.2.1
  have t0 := inv.1
  unfold wX12_tellOthers
  intro h1 e1 h2 e2
  have k2 : ∀ k, k ≠ 12 → h2 k = h k := fun k hk => by rw [e2, up_k hk, e1, up_k hk]
  have j2 : ∀ j, j ≠ 43 → j ≠ 44 → h2 12 7 j = h 12 7 j := fun j a b => by rw [e2, up_j b, e1, up_j a]
  have clear : ∀ (Ko : HP → Prop), (∀ h', (∀ k, k ≠ 68 → h' k = h2 k) → (∀ c, 0 ≤ c → c < 12 → h' 68 7 c = 0) → Ko h') → ∃ g, wX12_tellOthers_12 7 Ko g 0 h2 := by
    intro Ko kk
    have loop : ∀ (d : Nat) (i : Int) (hh : HP), (12 - i).toNat = d → 0 ≤ i → i ≤ 12 → (∀ k, k ≠ 68 → hh k = h2 k) → (∀ c, 0 ≤ c → c < i → hh 68 7 c = 0) → wX12_tellOthers_12 7 Ko (d + 1) i hh := by
      intro d
      induction d with
      | zero =>
        intro i hh hd i0 i1 f g
        have e : i = 12 := by omega
        subst e
        rw [wX12_tellOthers_12]
        exact ⟨by omega, fun _ => kk hh f g, fun u => absurd (Int.le_refl _) u⟩
      | succ d ih =>
        intro i hh hd i0 i1 f g
        rw [wX12_tellOthers_12]
        refine ⟨by omega, fun u => absurd u (by omega), fun _ => ⟨by omega, fun h5 e5 => ih (i + 1) h5 (by omega) (by omega) (by omega) (fun k hk => by rw [e5, up_k hk]; exact f k hk) (fun c c0 c1 => ?_)⟩⟩
        rw [e5, up_ji]
        by_cases y : c = i
        · rw [if_pos y]
        · rw [if_neg y]; exact g c c0 (by omega)
    exact ⟨_, loop 12 0 h2 (by omega) (by omega) (by omega) (fun _ _ => rfl) (fun c c0 c1 => by omega)⟩
  refine clear _ (fun h8 f8 g8 => ?_)
  have k8 : ∀ k, k ≠ 12 → k ≠ 68 → h8 k = h k := fun k a b => by rw [f8 k b, k2 k a]
  have j8 : ∀ j, j ≠ 43 → j ≠ 44 → h8 12 7 j = h 12 7 j := fun j a b => by rw [f8 12 (by decide), j2 j a b]
  refine remember_s (fun h9 f9 s9 => ?_)
  have k9 : ∀ k, k ≠ 12 → k ≠ 63 → k ≠ 68 → h9 k = h k := fun k a b c => by rw [f9 k b, k8 k a c]
  have j9 : ∀ j, j ≠ 43 → j ≠ 44 → h9 12 7 j = h 12 7 j := fun j a b => by rw [f9 12 (by decide), j8 j a b]
  have s9' : FrS h h9 := ⟨fun k k1 k2 k3 k4 k5 k6 k7 k8 k9' k10 => k9 k k1 k6 k8, fun j q => by
    have q' : ¬ (j = 1 ∨ (22 < j ∧ j < 34) ∨ (42 < j ∧ j < 50)) := q
    exact j9 j (by omega) (by omega), fun j j0 j1 => by rw [s9.2.2 j j0 j1, k8 56 (by decide) (by decide)]⟩
  have ot9 : OtR h h9 π σ (allO π σ m nt 0) := by
    refine ⟨⟨fun k k1 k2 k3 k4 k5 k6 k7 k8 k9' k10 => k9 k k1 k6 k8, s9'.2.1, fun j j0 j1 => by rw [k9 56 (by decide) (by decide) (by decide)]⟩, s9', ii.i (fun j hj => j9 j (by omega) (by omega)), j9 1 (by decide) (by decide), ?_, ?_, fun c c0 c1 => ⟨?_, fun i i0 i1 => ?_, fun v => ?_⟩⟩
    · show _ = (0 : Int)
      rw [f9 12 (by decide), f8 12 (by decide), e2, up_j (by decide), e1, up_eq]
    · show _ = (-1 : Int)
      rw [f9 12 (by decide), f8 12 (by decide), e2, up_eq]
    · show _ = (0 : Int)
      rw [f9 68 (by decide)]; exact g8 c c0 (by omega)
    · exact absurd i1 (by show ¬ i < (0 : Int); omega)
    · constructor
      · intro u; exact False.elim u
      · rintro ⟨i, i0, i1, -⟩
        exact absurd i1 (by show ¬ i < (0 : Int); omega)
  have inner : ∀ (f : Nat) (Ko : HP → Prop), (f : Int) < π 0 1 → (∀ h', OtR h h' π σ (allO π σ m nt (f + 1)) → Ko h') → ∀ (d n : Nat) (hh : HP), 64 - n = d → n ≤ 64 → OtR h hh π σ (rowO π σ m nt f n (allO π σ m nt f)) → wX12_tellOthers_60 7 f (σ 8 f 0) Ko (d + 1) ((n : Int) + 1) hh := by
    intro f Ko hf kk d
    have sz := inv.2.2.2.2.2.2.2.2.1 f (by omega) hf
    induction d with
    | zero =>
      intro n hh hd hn' o
      have e : n = 64 := by omega
      subst e
      rw [wX12_tellOthers_60]
      exact ⟨by omega, fun _ => kk hh o, fun u => absurd (by omega) u⟩
    | succ d ih =>
      intro n hh hd hn' o
      obtain ⟨oq, os, oi, oc, oa⟩ := o
      have okr := ((ACok.all (π := π) (σ := σ) (m := m) (nt := nt) f (by omega)).row (π := π) (σ := σ) (m := m) (nt := nt) (f := f) (by omega) n hn')
      have xh := x.qr oq
      rw [wX12_tellOthers_60]
      unfold wX12_tellOthers_123 wX12_tellOthers_127
      have go : ∀ h', OtR h h' π σ (rowO π σ m nt f (n + 1) (allO π σ m nt f)) → wX12_tellOthers_60 7 f (σ 8 f 0) Ko (d + 1) ((n : Int) + 1 + 1) h' := by
        intro h' o'
        have := ih (n + 1) h' (by omega) (by omega) o'
        rw [show ((n + 1 : Nat) : Int) + 1 = (n : Int) + 1 + 1 by omega] at this
        exact this
      have same : ¬ ((n : Int) + 1 ≠ σ 8 f 0 ∧ okN π σ (sizA σ f ((n : Int) + 1)) m nt) → rowO π σ m nt f (n + 1) (allO π σ m nt f) = rowO π σ m nt f n (allO π σ m nt f) := fun u => by
        show stepO π σ m nt f ((n : Int) + 1) _ = _
        unfold stepO; rw [if_neg u]
      refine ⟨by omega, fun u => absurd u (by omega), fun _ => ⟨by omega, by omega, fun u => ⟨by omega, fun h19 e19 => ?_⟩, fun u => go hh (by rw [same (fun w => w.1 u)]; exact ⟨oq, os, oi, oc, oa⟩)⟩⟩
      have inv1 := sizA_inv (f := (f : Int)) (z := (n : Int) + 1) inv (by omega)
      have e0 : sizA σ f ((n : Int) + 1) 0 = σ 0 := sizA_k (by decide)
      have k19 : ∀ k, k ≠ 56 → h19 k = hh k := fun k hk => by rw [e19, up_k hk]
      have x19 : RX h19 π K (sizA σ f ((n : Int) + 1)) := by
        refine ⟨hp, xh.2.1.congr (fun k k1 k2 => k19 k (by omega)), inv1, ?_⟩
        exact xh.2.2.2.siz hp (fun b b0 b1 => inv.qln b b0 b1) (by omega) hf (fun j => by rw [e19, up_ji])
      have fi19 : FrI hh h19 := FrI.k56 k19
      refine isAs_r x x19 (os.i fi19) (oi.f12 (k19 12 (by decide))) em m8 hN ok (by rw [e0]) hT (fun y h21 hy hq f21 q21 s21 i21 g21 => ⟨by omega, fun w => ?_, fun w => ?_⟩)
      · have hit : (n : Int) + 1 ≠ σ 8 f 0 ∧ okN π σ (sizA σ f ((n : Int) + 1)) m nt := ⟨u, hq.mp (by omega)⟩
        have er : rowO π σ m nt f (n + 1) (allO π σ m nt f) = putO π σ f ((n : Int) + 1) (rowO π σ m nt f n (allO π σ m nt f)) := by
          show stepO π σ m nt f ((n : Int) + 1) _ = _
          unfold stepO; rw [if_pos hit]
        rw [er] at go
        have oa21 := (oa.fr fi19).fr f21
        have c21 : h21 12 7 1 = h 12 7 1 := by rw [f21.2 1 (by decide) (by decide) (by decide), k19 12 (by decide)]; exact oc
        generalize rowO π σ m nt f n (allO π σ m nt f) = a at *
        obtain ⟨p1, p2, p3⟩ := oa21
        intro h25 e25
        have k25 : ∀ k, k ≠ 12 → h25 k = h21 k := fun k hk => by rw [e25, up_k hk]
        have fin : ∀ h29 : HP, (∀ k, k ≠ 12 → h29 k = h21 k) → (∀ j, j ≠ 43 → j ≠ 44 → h29 12 7 j = h21 12 7 j) → h29 12 7 43 = a.1 + 1 → h29 12 7 44 = (if a.1 = 0 then 100 * (f : Int) + ((n : Int) + 1) else a.2.1) → wX12_putSent 7 h29 (fun h28 => wX12_tellOthers_60 7 f (σ 8 f 0) Ko (d + 1) ((n : Int) + 1 + 1) h28) := by
          intro h29 k29 j29 e43 e44
          have q29 : FrQR h h29 := ⟨fun k k1 k2 k3 k4 k5 k6 k7 k8 k9 k10 => by rw [k29 k k1]; exact q21.1 k k1 k2 k3 k4 k5 k6 k7 k8 k9 k10, fun j q => by
            have q' : ¬ (j = 1 ∨ (22 < j ∧ j < 34) ∨ (42 < j ∧ j < 50)) := q
            rw [j29 j (by omega) (by omega)]; exact q21.2.1 j q, fun j j0 j1 => by rw [k29 56 (by decide)]; exact q21.2.2 j j0 j1⟩
          refine putSent_r (a := a) (f := (f : Int)) (z := (n : Int) + 1) (x.qr q29) (fun c => ?_) (fun c c0 c1 => ?_) (fun c c0 c1 => ?_) (fun h28 f28 r28 => go h28 ⟨?_, ?_, ?_, ?_, ?_, ?_, r28⟩)
          · have := okr.2.2.2 c
            have := okr.1
            omega
          · rw [k29 67 (by decide), g21 c c0 c1]
            have gs := goA_sent hp inv1 (by rw [e0]; exact hT) c0 c1 50 (by omega)
            rw [e0, sizA_k (show (1 : Nat) ≠ 8 by decide)] at gs
            have b1 := (inv.2.2.2.2.2.2.1 c c0 c1).1
            have br := inv.2.1
            unfold sntA
            omega
          · unfold AcU
            rw [k29 68 (by decide), k29 69 (by decide)]; exact p3 c c0 c1
          · exact ⟨fun k k1 k2 k3 k4 k5 k6 k7 k8 k9 k10 => by rw [f28 k k8 k9]; exact q29.1 k k1 k2 k3 k4 k5 k6 k7 k8 k9 k10, fun j q => by rw [f28 12 (by decide) (by decide)]; exact q29.2.1 j q, fun j j0 j1 => by rw [f28 56 (by decide) (by decide)]; exact q29.2.2 j j0 j1⟩
          · refine s21.e8 (fun k k1 _ _ k4 k5 => by rw [f28 k k4 k5, k29 k k1]) (fun j q => ?_)
            have q' : ¬ (j = 1 ∨ (22 < j ∧ j < 34) ∨ (42 < j ∧ j < 50)) := q
            rw [f28 12 (by decide) (by decide), j29 j (by omega) (by omega)]
          · exact i21.i (fun j hj => by rw [f28 12 (by decide) (by decide), j29 j (by omega) (by omega)])
          · rw [f28 12 (by decide) (by decide), j29 1 (by decide) (by decide)]; exact c21
          · rw [f28 12 (by decide) (by decide)]; exact e43
          · rw [f28 12 (by decide) (by decide)]; exact e44
        have e44 : h25 12 7 44 = a.2.1 := by rw [e25, up_j (by decide)]; exact p2
        have e43 : h25 12 7 43 = a.1 + 1 := by rw [e25, up_eq, p1]
        have ao := okr.2.1
        have ar := okr.2.2.1
        rw [e44]
        refine ⟨by omega, fun w2 => fin h25 k25 (fun j a1 _ => by rw [e25, up_j a1]) e43 (by rw [e44, if_neg (fun w3 => w2 (ao.mpr w3))]), fun w2 h29 e29 => fin h29 (fun k hk => by rw [e29, up_k hk]; exact k25 k hk) (fun j a1 a2 => by rw [e29, up_j a2, e25, up_j a1]) (by rw [e29, up_j (by decide)]; exact e43) (by rw [e29, up_eq, if_pos (ao.mp w2)])⟩
      · refine go h21 ?_
        rw [same (fun v => by have := hq.mpr v.2; omega)]
        exact ⟨q21, s21, i21, by rw [f21.2 1 (by decide) (by decide) (by decide), k19 12 (by decide)]; exact oc, (oa.fr fi19).fr f21⟩
  have outer : ∀ (d n : Nat) (hh : HP), (π 0 1).toNat - n = d → n ≤ (π 0 1).toNat → OtR h hh π σ (allO π σ m nt n) → wX12_tellOthers_37 7 (fun h33 => P h33) (d + 1) n hh := by
    intro d
    induction d with
    | zero =>
      intro n hh hd hn' o
      have e : n = (π 0 1).toNat := by omega
      subst e
      rw [wX12_tellOthers_37, (x.qr o.1).2.1.1.2]
      exact ⟨by omega, by omega, fun _ => k hh o, fun u => absurd (by omega) u⟩
    | succ d ih =>
      intro n hh hd hn' o
      have xh := x.qr o.1
      rw [wX12_tellOthers_37, xh.2.1.1.2, xh.2.2.2.2.1 n (by omega) (by omega)]
      refine ⟨by omega, by omega, fun u => absurd u (by omega), fun _ => ⟨by omega, _, inner n _ (by omega) (fun h' o' => ?_) 64 0 hh (by omega) (by omega) o⟩⟩
      have := ih (n + 1) h' (by omega) (by omega) o'
      rw [show ((n + 1 : Nat) : Int) = (n : Int) + 1 by omega] at this
      exact this
  exact ⟨_, outer _ 0 h9 rfl (by omega) ot9⟩
theorem other_r {h : HP} {π : PL} {K m a : Int} {nt : PL} {σ : ST} {P : Int → HP → Prop} (x0 : RY h π K σ) (hT : σ 0 0 0 ≤ 2000) (em : h 12 7 38 = m) (m8 : 0 ≤ m ∧ m ≤ 8) (hN : NoteR h 64 m nt) (ok : noteOK π m nt) (ha : inR a)
    (k : ∀ h' y e v, OkR h h' e → otherV π σ m nt a = (e, v) → (e = 0 → y = v) → P y h') : wX12_other 7 a h P := by
  unfold wX12_other
  intro h1 e1
  have o1 : OkR h h1 0 := by rw [e1]; exact OkR.start x0.2 0
  have y1 := x0.ok o1
  have x := y1.1
  have em1 : h1 12 7 38 = m := by rw [e1, up_j (by decide)]; exact em
  have hN1 : NoteR h1 64 m nt := by
    unfold NoteR at *
    rw [e1, up_k (by decide), up_k (by decide), up_k (by decide)]; exact hN
  refine isIn_r ha (by omega) (by omega) (fun y3 hy3 hq3 => ⟨by omega, fun z3 => ?_, fun z3 => fail_r (k _ 0 1 0 (o1.fail 1) (by unfold otherV; rw [if_neg (fun u => by have := hq3.mpr u; omega)]) (fun z => by omega))⟩)
  have ra := hq3.mp (by omega)
  refine ⟨ha, fun z => ?_, fun z => ?_⟩
  · refine tellO_r x y1.2 hT em1 m8 hN1 ok (fun h8 o8 => ⟨ha, fun t10 h10 => k h8 t10 0 t10 (o1.two o8.1 o8.2.2.1 o8.2.2.2.1) ?_ (fun _ => rfl)⟩)
    unfold otherV
    rw [if_pos ra, if_neg z]
    by_cases y : a = 0
    · rw [if_pos y, h10.2 y, o8.2.2.2.2.1]
    · rw [if_neg y, h10.1 y, o8.2.2.2.2.2.1]
  · refine remember_s (fun h14 f14 s14 => ?_)
    refine isAs_r x (x.f63 f14) s14 (y1.2.f12 (f14 12 (by decide))) em1 m8 hN1 ok rfl hT (fun y h15 hy hq f15 q15 s15 i15 g15 => ⟨by omega, fun t18 h18 => ?_⟩)
    refine k h15 t18 0 t18 (o1.two q15 i15 (by rw [f15.2 1 (by decide) (by decide) (by decide), f14 12 (by decide)])) ?_ (fun _ => rfl)
    unfold otherV
    rw [if_pos ra, if_pos z]
    by_cases w : okN π σ σ m nt
    · rw [if_pos w, h18.2 (by have := hq.mpr w; omega)]
    · rw [if_neg w, h18.1 (by rcases hy with u | u; exact u; exact absurd (hq.mp u) w)]
theorem lookL_r {h : HP} {π : PL} {a : Int} {U : Int → Int} {Ko : Int → Int → Prop} (hp : PlanOK π) (pr : PlanR h π) (hU : ∀ c, 0 ≤ c → c < π 0 0 → h 68 7 c = U c ∧ 0 ≤ U c ∧ U c ≤ 1000)
    (k : Ko (mstO U (π 0 0).toNat) (if mstO U (π 0 0).toNat = -1 then 0 else U (mstO U (π 0 0).toNat))) : ∃ g, wX12_look_31 7 a h Ko g (-1) 0 0 := by
  have n12 := hp.1.2.1
  have n0 := hp.1.1
  have loop : ∀ (d m : Nat), (π 0 0).toNat - m = d → m ≤ (π 0 0).toNat → wX12_look_31 7 a h Ko (d + 1) (mstO U m) (if mstO U m = -1 then 0 else U (mstO U m)) m := by
    intro d
    induction d with
    | zero =>
      intro m hd hm
      have e : m = (π 0 0).toNat := by omega
      subst e
      rw [wX12_look_31, pr.1.1]
      exact ⟨by omega, by omega, fun _ => k, fun u => absurd (by omega) u⟩
    | succ d ih =>
      intro m hd hm
      have r := mstO_rng U m
      have u1 := hU m (by omega) (by omega)
      have ih1 := ih (m + 1) (by omega) (by omega)
      have mm : mstO U (m + 1) = if 0 < U m ∧ (mstO U m = -1 ∨ U (mstO U m) < U m) then (m : Int) else mstO U m := rfl
      rw [mm] at ih1
      rw [wX12_look_31, pr.1.1, u1.1]
      generalize mstO U m = b at *
      have rb : 0 ≤ (if b = -1 then 0 else U b) ∧ (if b = -1 then 0 else U b) ≤ 1000 := by
        by_cases w : b = -1
        · rw [if_pos w]; omega
        · rw [if_neg w]
          have := hU b (by omega) (by omega)
          omega
      refine ⟨by omega, by omega, fun u => absurd u (by omega), fun _ => ⟨by omega, ⟨by omega, by omega, fun _ => by omega⟩, fun t14 t15 ht => ?_⟩⟩
      by_cases w : (if b = -1 then 0 else U b) < U m
      · obtain ⟨e1, e2⟩ := ht.1 w
        have c : 0 < U m ∧ (b = -1 ∨ U b < U m) := by
          by_cases w2 : b = -1
          · rw [if_pos w2] at w; exact ⟨w, Or.inl w2⟩
          · rw [if_neg w2] at w; exact ⟨by omega, Or.inr w⟩
        rw [if_pos c, if_neg (by omega)] at ih1
        rw [e1, e2]
        exact ih1
      · obtain ⟨e1, e2⟩ := ht.2 w
        have c : ¬ (0 < U m ∧ (b = -1 ∨ U b < U m)) := by
          rintro ⟨w1, w2⟩
          by_cases w3 : b = -1
          · rw [if_pos w3] at w; exact w w1
          · rw [if_neg w3] at w
            rcases w2 with w2 | w2
            · exact w3 w2
            · exact w w2
        rw [if_neg c] at ih1
        rw [e1, e2]
        exact ih1
  exact ⟨_, loop _ 0 rfl (by omega)⟩
theorem look_r {h : HP} {π : PL} {K m a : Int} {nt : PL} {σ : ST} {P : Int → HP → Prop} (x0 : RY h π K σ) (hT : σ 0 0 0 ≤ 2000) (em : h 12 7 38 = m) (m8 : 0 ≤ m ∧ m ≤ 8) (hN : NoteR h 64 m nt) (ok : noteOK π m nt) (ha : inR a)
    (k : ∀ h' y e v, OkR h h' e → lookV π σ m nt a = (e, v) → (e = 0 → y = v) → P y h') : wX12_look 7 a h P := by
  unfold wX12_look
  intro h1 e1
  have o1 : OkR h h1 0 := by rw [e1]; exact OkR.start x0.2 0
  have y1 := x0.ok o1
  have x := y1.1
  have n8 := x.1.2.1
  have em1 : h1 12 7 38 = m := by rw [e1, up_j (by decide)]; exact em
  have hN1 : NoteR h1 64 m nt := by
    unfold NoteR at *
    rw [e1, up_k (by decide), up_k (by decide), up_k (by decide)]; exact hN
  refine isIn_r ha (by omega) (by omega) (fun y3 hy3 hq3 => ⟨by omega, fun z3 => ?_, fun z3 => fail_r (k _ 0 1 0 (o1.fail 1) (by unfold lookV; rw [if_neg (fun u => by have := hq3.mpr u; omega)]) (fun z => by omega))⟩)
  have ra := hq3.mp (by omega)
  refine tellO_r x y1.2 hT em1 m8 hN1 ok (fun h6 o6 => ?_)
  have oka := ACok.all (π := π) (σ := σ) (m := m) (nt := nt) (π 0 1).toNat (by omega)
  refine lookL_r x.1 (x.qr o6.1).2.1 (U := (allO π σ m nt (π 0 1).toNat).2.2.1) (fun c c0 c1 => ⟨(o6.2.2.2.2.2.2 c c0 c1).1, ?_⟩) ⟨ha, fun t25 h25 => k h6 t25 0 t25 (o1.two o6.1 o6.2.2.1 o6.2.2.2.1) ?_ (fun _ => rfl)⟩
  · have := oka.2.2.2 c
    have := oka.1
    omega
  · unfold lookV
    rw [if_pos ra]
    by_cases y : a = 0
    · rw [if_pos y, h25.2 y]
    · rw [if_neg y, h25.1 y]
