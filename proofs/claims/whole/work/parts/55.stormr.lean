/-! storms: the reference -/
def wtM (s tn : Int) : Nat → Int
  | 0 => 1
  | m + 1 => wtM s tn m * (if bAnd (bShr s m) 1 = 1 then tn else 10 - tn)
noncomputable def stN (π : PL) (σ : ST) (f : Int) (n : Nat) (tn mo : Int) : Nat → Int
  | 0 => 0
  | s + 1 => stN π σ f n tn mo s + (if hel π (goZ π f s 100 σ 0) 12 ≤ mo then wtM s tn n else 0)
theorem shl_1 {n : Int} (h : 1 ≤ n ∧ n ≤ 5) : bShl 1 n = 2 ^ n.toNat ∧ 2 ≤ bShl 1 n ∧ bShl 1 n ≤ 32 := by
  have : n = 1 ∨ n = 2 ∨ n = 3 ∨ n = 4 ∨ n = 5 := by omega
  rcases this with u | u | u | u | u <;> subst u <;> decide
theorem weight_r {f n tn mo l5 s : Int} {h : HP} {Ko : Int → Prop} (hn : 1 ≤ n ∧ n ≤ 5) (k : Ko (wtM s tn n.toNat)) : ∃ g : Nat, wX12_storms_81 7 f n tn mo l5 s h Ko g 1 0 := by
  have loop : ∀ (d m : Nat), n.toNat - m = d → m ≤ n.toNat → wX12_storms_81 7 f n tn mo l5 s h Ko (d + 1) (wtM s tn m) m := by
    intro d
    induction d with
    | zero =>
      intro m hd hm
      have e : m = n.toNat := by omega
      subst e
      rw [wX12_storms_81]
      exact ⟨by omega, by omega, fun _ => k, fun u => absurd (by omega) u⟩
    | succ d ih =>
      intro m hd hm
      have b := bAnd1_all (bShr s m)
      rw [wX12_storms_81]
      refine ⟨by omega, by omega, fun u => absurd u (by omega), fun _ => ⟨by omega, fun t25 h25 => ?_⟩⟩
      have e : wtM s tn (m + 1) = wtM s tn m * t25 := by
        show wtM s tn m * (if bAnd (bShr s m) 1 = 1 then tn else 10 - tn) = _
        by_cases u : bAnd (bShr s m) 1 = 1
        · rw [if_pos u, h25.2 u]
        · rw [if_neg u, h25.1 u]
      rw [← e]
      exact ih (m + 1) (by omega) (by omega)
  exact ⟨_, loop _ 0 rfl (by omega)⟩
