/-! the first world -/
def specK (k : Nat) (j : Int) : Prop := (k = 11 ∧ j = 2) ∨ (k = 6 ∧ j = 5) ∨ k = 3 ∨ k = 4 ∨ (k = 12 ∧ (j = 21 ∨ j = 29 ∨ j = 32)) ∨ (k = 56 ∧ j = 3089)
def sig0 : ST := fun k a _ => if k = 0 ∧ a = 4 then -1 else 0
def pi0 : PL := fun _ _ => 0
theorem hel0 {σ : ST} {b : Int} : hel pi0 σ b = 0 := rfl
theorem first_line {h : HP} {K : Int} (hK : 0 ≤ K) : LInv pi0 K sig0 := by
  refine ⟨⟨?_, ?_, ?_, ?_, ?_, ?_, ?_, ?_, ?_, ?_⟩, ?_⟩
  · show (0 : Int) ≤ 0 ∧ (0 : Int) ≤ 2700; omega
  · show (0 : Int) ≤ 0 ∧ (0 : Int) ≤ 64; omega
  · show (0 : Int) ≤ 0 ∧ (0 : Int) ≤ 0; omega
  · show (0 : Int) ≤ 0 ∧ (0 : Int) ≤ 0; omega
  · exact Or.inl rfl
  · show (0 : Int) ≤ 0 ∧ (0 : Int) < 256; omega
  · intro c c0 c1
    have : c < 0 := c1
    omega
  · intro c hc
    show (0 : Int) ≤ 0 ∧ (0 : Int) ≤ 6500 * 0
    omega
  · intro f f0 f1
    have : f < 0 := f1
    omega
  · intro s s0 s1
    have : s < 3 * 0 := s1
    omega
  · show (0 : Int) ≤ 2000; omega
theorem first_IV {h : HP} (z : ∀ (k : Nat) (i j : Int), ¬ specK k j → h k i j = 0) (e1 : h 11 0 2 = -1) (e2 : h 6 10 5 = -1) (e3 : h 12 7 21 = -1) (e4 : h 12 7 29 = -1) (e5 : h 12 7 32 = -1) (e6 : h 56 7 3089 = -1) : IV h 0 := by
  have q0 : ∀ {c : Int}, 0 ≤ c → c < pi0 0 0 → False := fun {c} a b => by have : c < 0 := b; omega
  have q1 : ∀ {c : Int}, 0 ≤ c → c < pi0 0 1 → False := fun {c} a b => by have : c < 0 := b; omega
  have qn : ∀ {c : Int}, 0 ≤ c → c < 0 → False := fun {c} a b => by omega
  have sa : SA pi0 0 (sig0, 0, (fun _ => sig0), 0, pi0) := ⟨first_line (h := h) (by omega), ⟨by show (0 : Int) ≤ 0; omega, by show (0 : Int) ≤ 40; omega⟩, fun i a b => (qn a b).elim, ⟨by show (0 : Int) ≤ 0; omega, by show (0 : Int) ≤ 8; omega⟩, fun j a b => (qn a b).elim⟩
  refine ⟨pi0, (sig0, 0, (fun _ => sig0), 0, pi0), (0, (sig0, 0, (fun _ => sig0), 0, pi0), fun _ => 0), (0, (fun _ => 0), -1, fun _ => 0), ⟨⟨⟨?_, ?_, fun c a b => (q0 a b).elim⟩, ⟨?_, ?_⟩, fun f a b => (q1 a b).elim⟩, sa, Or.inl rfl, fun _ => sa, ⟨?_, ?_⟩, fun j a b => (qn a b).elim⟩, ⟨⟨fun f a b => (q1 a b).elim, fun i a b => (qn a b).elim⟩, fun _ => ⟨fun f a b => (q1 a b).elim, fun i a b => (qn a b).elim⟩⟩, ⟨?_, ⟨⟨⟨?_, fun c a b => (q0 a b).elim, ?_, fun f a b => (q1 a b).elim, ?_⟩, ?_⟩, ?_, ?_⟩, ?_, ?_⟩, ⟨?_, ⟨?_, ?_, ?_, ?_⟩, ?_, ?_, ?_⟩⟩
  · show (0 : Int) ≤ 0; omega
  · show (0 : Int) ≤ 12; omega
  · show (0 : Int) ≤ 0; omega
  · show (0 : Int) ≤ 8; omega
  · show (0 : Int) ≤ 0; omega
  · show (0 : Int) ≤ 700; omega
  · refine ⟨⟨z 8 1 0 (by unfold specK; omega), z 8 1 1 (by unfold specK; omega)⟩, fun c a b => (q0 a b).elim, fun c _ => z 38 1 c (by unfold specK; omega), fun f a b => (q1 a b).elim⟩
  · exact ⟨z 6 10 1 (by unfold specK; omega), z 6 10 2 (by unfold specK; omega), z 6 10 3 (by unfold specK; omega), z 6 10 4 (by unfold specK; omega), e2, z 6 10 6 (by unfold specK; omega)⟩
  · exact fun c _ => z 27 10 c (by unfold specK; omega)
  · intro s a b
    have : s < 3 * 0 := b
    omega
  · exact fun c _ => z 29 10 c (by unfold specK; omega)
  · exact ⟨z 5 3 2 (by unfold specK; omega), ⟨by show (0 : Int) ≤ 0; omega, by show (0 : Int) ≤ 40; omega⟩, by rw [z 5 3 1 (by unfold specK; omega)]; omega, fun i a b => (qn a b).elim⟩
  · exact ⟨z 7 5 0 (by unfold specK; omega), ⟨by show (0 : Int) ≤ 0; omega, by show (0 : Int) ≤ 8; omega⟩, fun i a b => (qn a b).elim, fun i a b => (qn a b).elim, fun i j a b c => (qn (show (0 : Int) ≤ j by omega) c).elim⟩
  · exact ⟨z 11 0 10 (by unfold specK; omega), fun e => absurd (show (0 : Int) = 1 from e) (by omega)⟩
  · exact ⟨z 11 0 1 (by unfold specK; omega), fun j a b => (qn a b).elim, e1, fun i _ _ => z 46 0 i (by unfold specK; omega)⟩
  · exact ⟨⟨z 49 7 0 (by unfold specK; omega), z 49 7 1 (by unfold specK; omega)⟩, fun c a b => (q0 a b).elim, fun f a b => (q1 a b).elim⟩
  · exact ⟨⟨z 56 7 3084 (by unfold specK; omega), z 56 7 3085 (by unfold specK; omega), z 56 7 3086 (by unfold specK; omega), z 56 7 3087 (by unfold specK; omega), z 56 7 3088 (by unfold specK; omega), e6, z 56 7 3090 (by unfold specK; omega)⟩, fun f a b => (q1 a b).elim, fun c a b => (q0 a b).elim⟩
  · exact ⟨z 12 7 35 (by unfold specK; omega), ⟨by show (0 : Int) ≤ 0; omega, by show (0 : Int) ≤ 40; omega⟩, fun i a b => (qn a b).elim⟩
  · exact z 12 7 38 (by unfold specK; omega)
  · exact fun j a b => (qn a b).elim
  · exact ⟨z 12 7 50 (by unfold specK; omega), fun e => absurd (show (0 : Int) = 1 from e) (by omega)⟩
  · exact ⟨z 12 7 12 (by unfold specK; omega), fun j a b => (qn a b).elim, e3, fun i _ _ => z 57 7 i (by unfold specK; omega)⟩
  · exact ⟨e4, e5, by rw [z 12 7 31 (by unfold specK; omega)]; omega, by rw [z 12 7 33 (by unfold specK; omega)]; omega⟩
