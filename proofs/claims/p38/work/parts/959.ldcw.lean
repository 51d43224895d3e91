/-! a text out of the pool, the wide way -/
section VLdcw
variable {G : GG} {p : Program} {l : Launch} {e : Jvm.Env} {R : Room} {s : State} {m : MethodId} {args : Array Value} {below : List Frame} {meth : Method} {c : Code} {Q : State → Prop} {own : String} {cc : ByteArray} {nL d pc : Nat} {lo st : List TV} {h : HP} {n : Nat}
theorem V.ldcwS (hc : VC G p R s m args meth c own cc nL d) {idx j : Nat} {jj : Int} (hq : (own, idx, j) ∈ ldcT) (hj : Nat.ble (j + 1) strN = true) (hjj : ((j : Nat) : Int) = jj) (hd : decode cc pc = .ok (.ldc_w idx, 3))
    (k1 : V G p l e R s m args below meth c Q nL (pc + 3) lo ((6, jj) :: st) h n) : V G p l e R s m args below meth c Q nL pc lo st h n := by
  intro ho hs H L ls hL hP hS
  subst hjj
  obtain ⟨e1, e2, e3, e4, e5, ⟨f1, f2, f3, f4, f5, f6, f7, f8, f9⟩, e7⟩ := hc
  have hj1 := Nat.le_of_ble_eq_true hj
  obtain ⟨tx, f8⟩ := f8 _ hq
  have k2 := k1 ho ⟨⟨by omega, by omega⟩, hs⟩ H L ls hL hP hS
  intro T hT X
  obtain ⟨t, a1, b1⟩ := k2 T hT X
  refine ⟨t, ?_, b1⟩
  obtain ⟨kc, cf, i, a', hk, hcf, hcp, -, hr, hev'⟩ := Cond.stringRef_spec e4 f8.1
  cases f8.2.symm.trans hev'
  obtain ⟨k', hk', he⟩ := X.warmed.alike.2.2 _ _ hk
  have hr' : k'.resolved[idx]? = some (some (.string (G.2.2.1 (20 + j)))) := by
    rcases X.warmed.entry hk hk' idx with h | ⟨h, -⟩
    · rw [h]; exact hr
    · rw [hr] at h; cases h
  have hdg : decode c.code (F0 m pc ls (st.map (cv G))).pc = .ok (.ldc_w idx, 3) := by rw [e2]; exact hd
  jvm_step X.here [e1, hdg, ldc_w.wp_string (e := e) (s := T) (f := F0 m pc ls (st.map (cv G))) X.here.top hk' (by rw [he]; exact hcf) hcp hr']
  exact a1
end VLdcw
