/-! storms: the class's sum -/
theorem weight_c {f n tn mo l5 s : Int} {h : HP} {Ko : Int → Prop} (hn : 1 ≤ n ∧ n ≤ 5) (k : Ko (wtM s tn n.toNat)) : ∃ g : Nat, wX0_likelyAtMost_20 0 f n tn mo l5 s h Ko g 1 0 := by
  have loop : ∀ (d m : Nat), n.toNat - m = d → m ≤ n.toNat → wX0_likelyAtMost_20 0 f n tn mo l5 s h Ko (d + 1) (wtM s tn m) m := by
    intro d
    induction d with
    | zero =>
      intro m hd hm
      have e : m = n.toNat := by omega
      subst e
      rw [wX0_likelyAtMost_20]
      exact ⟨by omega, by omega, fun _ => k, fun u => absurd (by omega) u⟩
    | succ d ih =>
      intro m hd hm
      have b := bAnd1_all (bShr s m)
      rw [wX0_likelyAtMost_20]
      refine ⟨by omega, by omega, fun u => absurd u (by omega), fun _ => ⟨by omega, fun t8 h8 => ?_⟩⟩
      have e : wtM s tn (m + 1) = wtM s tn m * t8 := by
        show wtM s tn m * (if bAnd (bShr s m) 1 = 1 then tn else 10 - tn) = _
        by_cases u : bAnd (bShr s m) 1 = 0
        · rw [if_neg (by omega), h8.1 u]
        · rw [if_pos (by omega), h8.2 u]
      rw [← e]
      exact ih (m + 1) (by omega) (by omega)
  exact ⟨_, loop _ 0 rfl (by omega)⟩
theorem wtM_rng {s tn : Int} (ht : 0 ≤ tn ∧ tn ≤ 10) : ∀ m : Nat, 0 ≤ wtM s tn m ∧ wtM s tn m ≤ 10 ^ m := by
  intro m
  induction m with
  | zero => exact ⟨(by decide : (0 : Int) ≤ 1), Int.le_refl (1 : Int)⟩
  | succ m ih =>
    have f : 0 ≤ (if bAnd (bShr s m) 1 = 1 then tn else 10 - tn) ∧ (if bAnd (bShr s m) 1 = 1 then tn else 10 - tn) ≤ 10 := by split <;> omega
    show 0 ≤ wtM s tn m * _ ∧ wtM s tn m * _ ≤ 10 ^ (m + 1)
    refine ⟨Int.mul_nonneg ih.1 f.1, ?_⟩
    rw [Int.pow_succ]
    exact Int.mul_le_mul ih.2 f.2 f.1 (Int.le_trans ih.1 ih.2)
