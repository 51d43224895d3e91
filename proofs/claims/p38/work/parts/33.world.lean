abbrev SD : Type := ST × Int × (Int → ST) × Int × PL
abbrev IM : Type := Int × SD × (Int → Int)
abbrev TX : Type := Int × (Int → Int) × Int × (Int → Int)
def LInv (π : PL) (K : Int) (σ : ST) : Prop := AInv π K σ ∧ σ 0 0 0 ≤ 2000
def SA (π : PL) (K : Int) (s : SD) : Prop := LInv π K s.1 ∧ (0 ≤ s.2.1 ∧ s.2.1 ≤ 40) ∧ (∀ i, 0 ≤ i → i < s.2.1 → LInv π K (s.2.2.1 i)) ∧ (0 ≤ s.2.2.2.1 ∧ s.2.2.2.1 ≤ 8) ∧ noteOK π s.2.2.2.1 s.2.2.2.2
def WA (π : PL) (K : Int) (s : SD) (im : IM) (t : TX) : Prop := PlanOK π ∧ SA π K s ∧ (im.1 = 0 ∨ im.1 = 1) ∧ (im.1 = 1 → SA π K im.2.1) ∧ (0 ≤ t.1 ∧ t.1 ≤ 700) ∧ ∀ j, 0 ≤ j → j < t.1 → 0 ≤ t.2.1 j ∧ t.2.1 j ≤ 255
def SideC (h : HP) (π : PL) (L H N : Int) (s : SD) : Prop := LineC h L π s.1 ∧ HistC h H π s.2.1 s.2.2.1 ∧ NotesC h N s.2.2.2.1 s.2.2.2.2
def ImgC (h : HP) (π : PL) (im : IM) : Prop := h 11 0 10 = im.1 ∧ (im.1 = 1 → SideC h π 11 4 6 im.2.1 ∧ ∀ i, 0 ≤ i → i < 3 → h 47 0 i = im.2.2 i)
def TxtC (h : HP) (t : TX) : Prop := h 11 0 1 = t.1 ∧ (∀ j, 0 ≤ j → j < t.1 → h 45 0 j = t.2.1 j) ∧ h 11 0 2 = t.2.2.1 ∧ ∀ i, 0 ≤ i → i < 3 → h 46 0 i = t.2.2.2 i
def CI (h : HP) (π : PL) (s : SD) (im : IM) (t : TX) : Prop := PlanC h 1 π ∧ SideC h π 10 3 5 s ∧ ImgC h π im ∧ TxtC h t
def sctK (k : Nat) : Prop := k = 0 ∨ k = 2 ∨ k = 3 ∨ k = 4 ∨ k = 10 ∨ k = 20 ∨ k = 21 ∨ k = 22 ∨ k = 44
def FrQC (h h' : HP) : Prop := ∀ k i, ¬ sctK k → ¬ (lnK k ∧ i = 12) → ¬ (k = 33 ∧ i = 10) → h' k i = h k i
theorem FrQC.rf (h : HP) : FrQC h h := fun _ _ _ _ _ => rfl
theorem FrQC.tr {h h' h'' : HP} (a : FrQC h h') (b : FrQC h' h'') : FrQC h h'' := fun k i q r s => by rw [b k i q r s, a k i q r s]
theorem FrL.q {h h' : HP} (f : FrL 12 h h') : FrQC h h' := fun k i _ r _ => f k i (fun z => r ⟨z.2, z.1⟩)
theorem Fr33.q {h h' : HP} (f : Fr33 10 h h') : FrQC h h' := fun k i _ _ s => f k i (fun z => s ⟨z.2, z.1⟩)
theorem FrQC.up {h : HP} {k : Nat} {i j v : Int} (hk : sctK k) : FrQC h (up h k i j v) := fun k' i' q _ _ => by
  have : k' ≠ k := fun z => q (by rw [z]; exact hk)
  exact congrFun (up_k this) i'
def FrCm (h h' : HP) : Prop := ∀ k, (k = 12 ∨ 49 ≤ k) → h' k = h k
theorem FrQC.cm {h h' : HP} (f : FrQC h h') : FrCm h h' := fun k hk => by
  funext i
  refine f k i ?_ ?_ ?_
  · unfold sctK; omega
  · unfold lnK; omega
  · omega
theorem FrL.cm {L : Int} {h h' : HP} (f : FrL L h h') : FrCm h h' := fun k hk => by
  funext i
  exact f k i (by unfold lnK; omega)
/-- a line, whatever its scratch -/
theorem LineC.c33 {h h' : HP} {L : Int} {π : PL} {σ : ST} (e : ∀ k, lnK k → k ≠ 33 → h' k L = h k L) (q : LineC h L π σ) : LineC h' L π σ := by
  obtain ⟨⟨a1, a2, a3, a4, a5⟩, b⟩ := q
  have g : ∀ k, lnK k → k ≠ 33 → h' k L = h k L := e
  refine ⟨⟨?_, ?_, ?_, ?_, fun s s0 s1 => (a5 s s0 s1).keep (fun k k0 k1 => g k (by unfold lnK; omega) (by omega))⟩, ?_⟩
  · rw [g 6 (by unfold lnK; omega) (by decide)]; exact a1
  · unfold QueC at *
    rw [g 24 (by unfold lnK; omega) (by decide), g 25 (by unfold lnK; omega) (by decide), g 26 (by unfold lnK; omega) (by decide), g 28 (by unfold lnK; omega) (by decide), g 30 (by unfold lnK; omega) (by decide), g 31 (by unfold lnK; omega) (by decide)]; exact a2
  · rw [g 27 (by unfold lnK; omega) (by decide)]; exact a3
  · rw [g 32 (by unfold lnK; omega) (by decide)]; exact a4
  · unfold HeldC at *
    rw [g 29 (by unfold lnK; omega) (by decide)]; exact b
theorem SideC.cg {h h' : HP} {π : PL} {L H N : Int} {s : SD} (q : SideC h π L H N s) (e1 : ∀ k, lnK k → k ≠ 33 → h' k L = h k L) (e2 : h' 5 H = h 5 H) (e3 : ∀ k i, lnK k → hb H ≤ i → i < hb H + 40 → h' k i = h k i) (e4 : ∀ k, ntK k → h' k N = h k N) : SideC h' π L H N s :=
  ⟨q.1.c33 e1, q.2.1.fr e2 e3, q.2.2.congr e4⟩
/-- what a call that tells only leaves alone -/
def prC (k : Nat) (i : Int) : Prop := k < 49 ∧ k ≠ 12 ∧ ¬ (k = 0 ∨ k = 2 ∨ k = 3 ∨ k = 4 ∨ k = 10 ∨ k = 20 ∨ k = 21 ∨ k = 22 ∨ k = 44) ∧ ¬ ((k = 6 ∨ (13 ≤ k ∧ k ≤ 19) ∨ (24 ≤ k ∧ k ≤ 33)) ∧ i = 12) ∧ ¬ (k = 33 ∧ i = 10)
theorem prC.ln {k : Nat} {i : Int} (hk : lnK k) (hi : i ≠ 12) (h : k = 33 → i ≠ 10) : prC k i := by unfold lnK at hk; unfold prC; omega
theorem prC.nt {k : Nat} {i : Int} (hk : ntK k) : prC k i := by unfold ntK at hk; unfold prC; omega
theorem CI.cg {h h' : HP} {π : PL} {s : SD} {im : IM} {t : TX} (q : CI h π s im t) (e : ∀ k i, prC k i → h' k i = h k i) : CI h' π s im t := by
  obtain ⟨q1, q2, ⟨i1, i2⟩, t1, t2, t3, t4⟩ := q
  have h3 : hb 3 = 20 := rfl
  have h4 : hb 4 = 60 := rfl
  refine ⟨q1.congr (fun k hk => e k 1 (by unfold prC; omega)), q2.cg (fun k hk k33 => e k 10 (prC.ln hk (by omega) (fun z => absurd z k33))) (e 5 3 (by unfold prC; omega)) (fun k i hk i0 i1 => e k i (prC.ln hk (by omega) (by omega))) (fun k hk => e k 5 (prC.nt hk)), ⟨?_, fun z => ⟨(i2 z).1.cg (fun k hk k33 => e k 11 (prC.ln hk (by omega) (fun z => absurd z k33))) (e 5 4 (by unfold prC; omega)) (fun k i hk i0 i1 => e k i (prC.ln hk (by omega) (by omega))) (fun k hk => e k 6 (prC.nt hk)), ?_⟩⟩, ?_, ?_, ?_, ?_⟩
  · rw [e 11 0 (by unfold prC; omega)]; exact i1
  · rw [e 47 0 (by unfold prC; omega)]; exact (i2 z).2
  · rw [e 11 0 (by unfold prC; omega)]; exact t1
  · rw [e 45 0 (by unfold prC; omega)]; exact t2
  · rw [e 11 0 (by unfold prC; omega)]; exact t3
  · rw [e 46 0 (by unfold prC; omega)]; exact t4
theorem CI.q {h h' : HP} {π : PL} {s : SD} {im : IM} {t : TX} (q : CI h π s im t) (f : FrQC h h') : CI h' π s im t :=
  q.cg (fun k i hk => f k i (by unfold prC at hk; unfold sctK; omega) (by unfold prC at hk; unfold lnK; omega) (by unfold prC at hk; omega))
theorem WA.qln {π : PL} {K : Int} {s : SD} {im : IM} {t : TX} (w : WA π K s im t) : QLn π s.1 := fun b b0 b1 => w.2.1.1.1.qln b b0 b1
theorem CI.lx {h : HP} {π : PL} {K : Int} {s : SD} {im : IM} {t : TX} (q : CI h π s im t) (w : WA π K s im t) : LX h 10 π K s.1 := ⟨w.1, q.1, w.2.1.1.1, q.2.1.1⟩
