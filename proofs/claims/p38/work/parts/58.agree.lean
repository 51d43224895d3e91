def sizA (σ : ST) (f z : Int) : ST := up σ 8 f 0 z
