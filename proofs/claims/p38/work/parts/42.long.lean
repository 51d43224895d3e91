theorem LX.fq {h h' : HP} {π : PL} {K : Int} {σ : ST} (x : LX h 10 π K σ) (f : FrQC h h') : LX h' 10 π K σ :=
  ⟨x.1, x.2.1.congr (fun k hk => f k 1 (by unfold sctK; omega) (by unfold lnK; omega) (by omega)), x.2.2.1, x.2.2.2.c33 (fun k hk k33 => f k 10 (by unfold lnK at hk; unfold sctK; omega) (by omega) (by omega))⟩
