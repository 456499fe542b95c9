def pure_inv (M1 M2 : tr_M) : Prop := True
theorem pure_same : tr_same pure_inv := sorry
theorem pure_start : pure_inv tr_C0 tr_M0 := trivial
