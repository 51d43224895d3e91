theorem fill_c {k0 : Nat} {i0 a : Int} {n : Nat} {h : HP} {P : HP → Prop} (c0 : kCls k0 = 99) (l0 : kLen k0 = n) (hn : n < 1000000) (k : ∀ h', (∀ k i, ¬ (k = k0 ∧ i = i0) → h' k i = h k i) → (∀ j : Int, 0 ≤ j → j < n → h' k0 i0 j = a) → P h') : wJ7_fill_53178 k0 i0 a h P := by
  unfold wJ7_fill_53178
  refine ⟨c0, ?_⟩
  have loop : ∀ (d m : Nat) (hh : HP), n - m = d → m ≤ n → (∀ k i, ¬ (k = k0 ∧ i = i0) → hh k i = h k i) → (∀ j : Int, 0 ≤ j → j < m → hh k0 i0 j = a) → wJ7_fill_53178_5 k0 i0 a k0 i0 ((kLen k0 : Nat) : Int) (fun h9 => P h9) (d + 1) m hh := by
    intro d
    induction d with
    | zero =>
      intro m hh hd hm f g
      have e : m = n := by omega
      subst e
      rw [wJ7_fill_53178_5, l0]
      exact ⟨by omega, by omega, fun _ => k hh f g, fun c => absurd (Int.le_refl _) c⟩
    | succ d ih =>
      intro m hh hd hm f g
      rw [wJ7_fill_53178_5]
      refine ⟨by omega, by omega, fun c => absurd c (by omega), fun _ => ⟨c0, by omega, fun h5 e5 => ?_⟩⟩
      refine ih (m + 1) h5 (by omega) (by omega) (fun k i q => ?_) (fun j j0 j1 => ?_)
      · rw [e5]
        by_cases y : k = k0
        · rw [up_i (fun z => q ⟨y, z⟩)]; exact f k i q
        · rw [up_k y]; exact f k i q
      · rw [e5, up_ji]
        by_cases y : j = m
        · rw [if_pos y]
        · rw [if_neg y]; exact g j j0 (by omega)
  exact ⟨_, loop n 0 h (by omega) (by omega) (fun _ _ _ => rfl) (fun j j0 j1 => by omega)⟩
def AcC (h : HP) (π : PL) (l : Int) (a : AC) : Prop := h 4 0 4 = a.1 ∧ h 4 0 5 = a.2.1 ∧ (l = 1 → ∀ c, 0 ≤ c → c < π 0 0 → h 22 0 c = a.2.2.1 c ∧ ∀ v, 0 ≤ v → v < 128 → (h 21 0 (c * 128 + v) = 0 ∨ h 21 0 (c * 128 + v) = 1) ∧ (h 21 0 (c * 128 + v) = 1 ↔ a.2.2.2 c v))
theorem AcC.fr {h h' : HP} {π : PL} {l : Int} {a : AC} (q : AcC h π l a) (f : FrL 12 h h') : AcC h' π l a := by
  unfold AcC at *
  rw [f 4 0 (by omega), f 22 0 (by omega), f 21 0 (by omega)]; exact q
theorem AcC.cg {h h' : HP} {π : PL} {l : Int} {a : AC} (q : AcC h π l a) (e4 : h' 4 = h 4) (e21 : h' 21 = h 21) (e22 : h' 22 = h 22) : AcC h' π l a := by
  unfold AcC at *
  rw [e4, e21, e22]; exact q
