/-! an object as it is made -/
def specK (k : Nat) (j : Int) : Prop := (k = 11 ∧ j = 2) ∨ (k = 6 ∧ j = 5) ∨ k = 3 ∨ k = 4
def sig0 : ST := fun k a _ => if k = 0 ∧ a = 4 then -1 else 0
def pi0 : PL := fun _ _ => 0
theorem first_line {K : Int} : LInv pi0 K sig0 := by
  refine ⟨⟨?_, ?_, ?_, ?_, ?_, ?_, ?_, ?_, ?_, ?_⟩, ?_⟩
  · show (0 : Int) ≤ 0 ∧ (0 : Int) ≤ 2700; omega
  · show (0 : Int) ≤ 0 ∧ (0 : Int) ≤ 64; omega
  · show (0 : Int) ≤ 0 ∧ (0 : Int) ≤ 0; omega
  · show (0 : Int) ≤ 0 ∧ (0 : Int) ≤ 0; omega
  · exact Or.inl rfl
  · show (0 : Int) ≤ 0 ∧ (0 : Int) < 256; omega
  · intro c c0 c1
    have : c < 0 := c1
    omega
  · intro c hc
    show (0 : Int) ≤ 0 ∧ (0 : Int) ≤ 6500 * 0
    omega
  · intro f f0 f1
    have : f < 0 := f1
    omega
  · intro s s0 s1
    have : s < 3 * 0 := s1
    omega
  · show (0 : Int) ≤ 2000; omega
def sd0 : SD := (sig0, 0, (fun _ => sig0), 0, pi0)
def im0 : IM := (0, sd0, fun _ => 0)
def tx0 : TX := (0, (fun _ => 0), -1, fun _ => 0)
theorem first_WA {K : Int} : WA pi0 K sd0 im0 tx0 := by
  have qn : ∀ {c : Int}, 0 ≤ c → c < 0 → False := fun {c} a b => by omega
  have q0 : ∀ {c : Int}, 0 ≤ c → c < pi0 0 0 → False := fun {c} a b => by have : c < 0 := b; omega
  have q1 : ∀ {c : Int}, 0 ≤ c → c < pi0 0 1 → False := fun {c} a b => by have : c < 0 := b; omega
  have sa : SA pi0 K sd0 := ⟨first_line, ⟨by show (0 : Int) ≤ 0; omega, by show (0 : Int) ≤ 40; omega⟩, fun i a b => (qn a b).elim, ⟨by show (0 : Int) ≤ 0; omega, by show (0 : Int) ≤ 8; omega⟩, fun j a b => (qn a b).elim⟩
  refine ⟨⟨⟨?_, ?_, fun c a b => (q0 a b).elim⟩, ⟨?_, ?_⟩, fun f a b => (q1 a b).elim⟩, sa, Or.inl rfl, fun _ => sa, ⟨?_, ?_⟩, fun j a b => (qn a b).elim⟩
  · show (0 : Int) ≤ 0; omega
  · show (0 : Int) ≤ 12; omega
  · show (0 : Int) ≤ 0; omega
  · show (0 : Int) ≤ 8; omega
  · show (0 : Int) ≤ 0; omega
  · show (0 : Int) ≤ 700; omega
theorem first_CI {h : HP} (z : ∀ (k : Nat) (i j : Int), ¬ specK k j → h k i j = 0) (e1 : h 11 0 2 = -1) (e2 : h 6 10 5 = -1) : CI h pi0 sd0 im0 tx0 := by
  have q0 : ∀ {c : Int}, 0 ≤ c → c < pi0 0 0 → False := fun {c} a b => by have : c < 0 := b; omega
  have q1 : ∀ {c : Int}, 0 ≤ c → c < pi0 0 1 → False := fun {c} a b => by have : c < 0 := b; omega
  have qn : ∀ {c : Int}, 0 ≤ c → c < 0 → False := fun {c} a b => by omega
  refine ⟨?_, ⟨⟨⟨?_, fun c a b => (q0 a b).elim, ?_, fun f a b => (q1 a b).elim, ?_⟩, ?_⟩, ?_, ?_⟩, ?_, ?_⟩
  · exact ⟨⟨z 8 1 0 (by unfold specK; omega), z 8 1 1 (by unfold specK; omega)⟩, fun c a b => (q0 a b).elim, fun c _ => z 38 1 c (by unfold specK; omega), fun f a b => (q1 a b).elim⟩
  · exact ⟨z 6 10 1 (by unfold specK; omega), z 6 10 2 (by unfold specK; omega), z 6 10 3 (by unfold specK; omega), z 6 10 4 (by unfold specK; omega), e2, z 6 10 6 (by unfold specK; omega)⟩
  · exact fun c _ => z 27 10 c (by unfold specK; omega)
  · intro s a b
    have : s < 3 * 0 := b
    omega
  · exact fun c _ => z 29 10 c (by unfold specK; omega)
  · exact ⟨z 5 3 2 (by unfold specK; omega), ⟨by show (0 : Int) ≤ 0; omega, by show (0 : Int) ≤ 40; omega⟩, by rw [z 5 3 1 (by unfold specK; omega)]; omega, fun i a b => (qn a b).elim⟩
  · exact ⟨z 7 5 0 (by unfold specK; omega), ⟨by show (0 : Int) ≤ 0; omega, by show (0 : Int) ≤ 8; omega⟩, fun i a b => (qn a b).elim, fun i a b => (qn a b).elim, fun i j a b c => (qn (show (0 : Int) ≤ j by omega) c).elim⟩
  · exact ⟨z 11 0 10 (by unfold specK; omega), fun e => absurd (show (0 : Int) = 1 from e) (by omega)⟩
  · exact ⟨z 11 0 1 (by unfold specK; omega), fun j a b => (qn a b).elim, e1, fun i _ _ => z 46 0 i (by unfold specK; omega)⟩
theorem hist_kj {h : HP} {b : Int} {n k' : Nat} {i' j' : Int} (hk : ¬ (k' = 6 ∧ j' = 5)) : hist h b n k' i' j' = h k' i' j' := by
  induction n with
  | zero => rfl
  | succ n ih => show up _ 6 _ 5 _ k' i' j' = _; rw [up_kj (by omega), ih]
theorem hist_i {h : HP} {b : Int} {n k' : Nat} {i' j' : Int} (hk : i' < b) : hist h b n k' i' j' = h k' i' j' := by
  induction n with
  | zero => rfl
  | succ n ih => show up _ 6 _ 5 _ k' i' j' = _; rw [up_kj (by omega), ih]
theorem hpF_CI : CI hpF pi0 sd0 im0 tx0 := by
  refine first_CI (fun k i j hk => ?_) ?_ ?_
  · unfold specK at hk
    unfold hpF
    rw [up_kj (by omega), up_kj (by omega), up_kj (by omega), hist_kj (by omega), up_kj (by omega), hist_kj (by omega), up_kj (by omega), up_kj (by omega)]
    rfl
  · unfold hpF
    rw [up_kj (by omega), up_kj (by omega), up_kj (by omega), hist_kj (by omega), up_kj (by omega), hist_kj (by omega), up_kj (by omega), up_eq]
  · unfold hpF
    rw [up_kj (by omega), up_kj (by omega), up_kj (by omega), hist_i (by decide), up_kj (by omega), hist_i (by decide), up_eq]
theorem hpF_203 (k : Nat) (hk : 48 ≤ k) (i j : Int) : hpF k i j = 0 := by
  unfold hpF
  rw [up_kj (by omega), up_kj (by omega), up_kj (by omega), hist_kj (by omega), up_kj (by omega), hist_kj (by omega), up_kj (by omega), up_kj (by omega)]
  rfl
theorem byA_0 : ∀ k : Int, 0 ≤ k → k < 4 → byA 0 k = 0 := by
  intro k k0 k1
  have h : k = 0 ∨ k = 1 ∨ k = 2 ∨ k = 3 := by omega
  rcases h with e | e | e | e <;> subst e <;> decide +kernel
theorem Wk_0 {h : HP} (e : ∀ i, h 203 0 i = 0) : Wk h 0 [] := by
  refine ⟨e 5, fun j j0 j1 => ?_⟩
  rw [show h (kd 3) 0 (j / 4) = 0 from e _, byA_0 _ (by omega) (by omega), if_neg (by omega)]
/-- an object as it is made, nothing said yet -/
theorem first_Buf {o : Int} {h : HP} (eo : ∀ k, k < 100 → ob o h k = hpF k) (hw : Wk h 0 []) : Buf o 0 pi0 sd0 im0 tx0.2.2 [] h := by
  refine ⟨⟨by decide, fun x hx => by cases hx⟩, hw, tx0, first_WA, ?_, rfl, fun j j0 j1 => ?_, rfl⟩
  · refine hpF_CI.cg (fun k i hk => ?_)
    have := hk.lt
    rw [eo k (by omega)]
  · have : j < (0 : Int) := j1
    omega
