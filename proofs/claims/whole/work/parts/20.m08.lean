abbrev xX7_figure : tr_X := (cX7_figure, 3, RX7, (some .boolean), 2, shM, 24)
theorem cw_X7_figure : Cond.code yX7_figure cX7_figure 3 (some .boolean) ∈ tr_tbl := tr_in 1370 (by decide +kernel) rfl
theorem yk_X7_figure : tr_yk yX7_figure (xX7_figure) 1 := ⟨cw_X7_figure, in_X7, ⟨by decide +kernel, by decide +kernel, by decide +kernel⟩, Nat.le_of_ble_eq_true rfl⟩
theorem iv_X7_figure : Cond.instanceMethod yX7_figure ∈ tr_tbl ∧ Cond.selects (yX7_figure).cls yX7_figure yX7_figure ∈ tr_tbl := ⟨tr_in 1369 (by decide +kernel) rfl, tr_in 67 (by decide +kernel) rfl⟩
def mX7_figure (p1 : Int32) (M : tr_M) : Option (Int32 × tr_M) :=
  Option.bind (mX7_byteAt p1 (M.1 1 14) M) (fun c1 =>
  Option.bind (some (tr_st M 1 15 (c1 - (48 : Int32)))) (fun M3 =>
  Option.bind (some (mX7_in (M3.1 1 15) (0 : Int32) (9 : Int32))) (fun x7 =>
  if x7 = 0 then (
    Option.bind (some (tr_st M3 1 14 ((M3.1 1 14) + (0 : Int32)))) (fun M9 =>
    Option.bind (tr_gd (x7 &&& 1 == x7)) (fun _ => some (x7, M9))
    )
  ) else (
    Option.bind (some (tr_st M3 1 14 ((M3.1 1 14) + (1 : Int32)))) (fun M13 =>
    Option.bind (tr_gd (x7 &&& 1 == x7)) (fun _ => some (x7, M13))
    )
  )
  )
  )
  )
set_option maxRecDepth 100000 in
set_option maxHeartbeats 4000000 in
theorem C_X7_figure (p1 : Int32) (M : tr_M) (r : Int32 × tr_M) (h : mX7_figure p1 M = some r) : tr_I yX7_figure (xX7_figure) [.ref 1, .int p1] M (some (.int r.1)) r.2 := by
  refine tr_I.of (Z := fun q : Int32 × tr_M => (some (.int r.1) : Option Value) = some (.int q.1) ∧ r.2 = q.2) pn_X7 rfl gdM (Nat.le_of_ble_eq_true rfl) (fun Wt => ?_) h ⟨rfl, rfl⟩
  unfold mX7_figure
  refine tr_V.aload_n (i := 0) dX7_figure_0 rfl rfl ?_
  refine tr_V.aload_n (i := 0) dX7_figure_1 rfl rfl ?_
  refine tr_V.iload_n (i := 1) dX7_figure_2 rfl rfl ?_
  refine tr_V.aload_n (i := 0) dX7_figure_3 rfl rfl ?_
  refine tr_V.getI fl_X7_120 shM_1 rfl dX7_figure_4 ?_
  refine tr_V.bd (fun c1 h2 => ?_)
  refine tr_V.callV (C_X7_byteAt p1 (M.1 1 14) M _ h2) yk_X7_byteAt iv_X7_byteAt ml_X7_123 shM_1 rfl ⟨rfl, Nat.le_of_ble_eq_true rfl⟩ rfl (Nat.le_of_ble_eq_true rfl) rfl dX7_figure_7 ?_
  refine tr_V.bipush (v := (48 : Int32)) dX7_figure_10 (by decide) ?_
  refine tr_V.isub dX7_figure_12 ?_
  refine tr_V.bd (fun M3 h4 => ?_)
  refine tr_V.putI fl_X7_126 shM_1 rfl dX7_figure_13 h4 ?_
  refine tr_V.aload_n (i := 0) dX7_figure_16 rfl rfl ?_
  refine tr_V.getI fl_X7_126 shM_1 rfl dX7_figure_17 ?_
  refine tr_V.iconst (v := (0 : Int32)) dX7_figure_20 (by decide) ?_
  refine tr_V.bipush (v := (9 : Int32)) dX7_figure_21 (by decide) ?_
  refine tr_V.callS (C_X7_in (M3.1 1 15) (0 : Int32) (9 : Int32) M3) yk_X7_in sc_X7_in ml_X7_92 ⟨rfl, Nat.le_of_ble_eq_true rfl⟩ rfl (Nat.le_of_ble_eq_true rfl) rfl dX7_figure_23 ?_
  refine tr_V.bd (fun x7 h8 => ?_)
  refine tr_V.nmI h8 ?_
  refine tr_V.istore_n (i := 2) dX7_figure_26 rfl (Nat.le_of_ble_eq_true rfl) rfl ?_
  refine tr_V.aload_n (i := 0) dX7_figure_27 rfl rfl ?_
  refine tr_V.dup rfl dX7_figure_28 ?_
  refine tr_V.getI fl_X7_120 shM_1 rfl dX7_figure_29 ?_
  refine tr_V.iload_n (i := 2) dX7_figure_32 rfl rfl ?_
  refine tr_V.if_eq (tgt := 40) dX7_figure_33 (by decide) ?_ ?_
  · refine tr_V.iconst (v := (0 : Int32)) dX7_figure_40 (by decide) ?_
    refine tr_V.iadd dX7_figure_41 ?_
    refine tr_V.bd (fun M9 h10 => ?_)
    refine tr_V.putI fl_X7_120 shM_1 rfl dX7_figure_42 h10 ?_
    refine tr_V.iload_n (i := 2) dX7_figure_45 rfl rfl ?_
    refine tr_V.gd (fun h11 => ?_)
    exact tr_V.zret h11 dX7_figure_46 rfl (fun h => h)
  · refine tr_V.iconst (v := (1 : Int32)) dX7_figure_36 (by decide) ?_
    refine tr_V.goto (tgt := 41) dX7_figure_37 (by decide) ?_
    refine tr_V.iadd dX7_figure_41 ?_
    refine tr_V.bd (fun M13 h14 => ?_)
    refine tr_V.putI fl_X7_120 shM_1 rfl dX7_figure_42 h14 ?_
    refine tr_V.iload_n (i := 2) dX7_figure_45 rfl rfl ?_
    refine tr_V.gd (fun h15 => ?_)
    exact tr_V.zret h15 dX7_figure_46 rfl (fun h => h)
abbrev xX7_readsCount : tr_X := (cX7_readsCount, 4, RX7, (some .boolean), 2, shM, 24)
theorem cw_X7_readsCount : Cond.code yX7_readsCount cX7_readsCount 4 (some .boolean) ∈ tr_tbl := tr_in 1351 (by decide +kernel) rfl
theorem yk_X7_readsCount : tr_yk yX7_readsCount (xX7_readsCount) 1 := ⟨cw_X7_readsCount, in_X7, ⟨by decide +kernel, by decide +kernel, by decide +kernel⟩, Nat.le_of_ble_eq_true rfl⟩
theorem iv_X7_readsCount : Cond.instanceMethod yX7_readsCount ∈ tr_tbl ∧ Cond.selects (yX7_readsCount).cls yX7_readsCount yX7_readsCount ∈ tr_tbl := ⟨tr_in 1350 (by decide +kernel) rfl, tr_in 63 (by decide +kernel) rfl⟩
def mX7_readsCount_l30 (p1 : Int32) (s6 : Int32 × Int32 × tr_M) : Option ((Int32 × Int32 × tr_M) ⊕ (Int32 × Int32 × tr_M)) :=
  if s6.1 < (2 : Int32) then (
    Option.bind (mX7_byteAt p1 (s6.2.2.1 1 14) s6.2.2) (fun c7 =>
    if (mX7_in c7 (48 : Int32) (57 : Int32)) = 0 then (
      some (.inr (s6.1, s6.2.1, s6.2.2))
    ) else (
      Option.bind (mX7_byteAt p1 (s6.2.2.1 1 14) s6.2.2) (fun c11 =>
      Option.bind (some ((((10 : Int32) * s6.2.1) + c11) - (48 : Int32))) (fun x13 =>
      Option.bind (some (tr_st s6.2.2 1 14 ((s6.2.2.1 1 14) + (1 : Int32)))) (fun M15 =>
      some (.inl ((s6.1 + (1 : Int32)), x13, M15))
      )
      )
      )
    )
    )
  ) else (
    some (.inr (s6.1, s6.2.1, s6.2.2))
  )
def mX7_readsCount (p1 : Int32) (M : tr_M) : Option (Int32 × tr_M) :=
  Option.bind (mX7_byteAt p1 (M.1 1 14) M) (fun c1 =>
  if c1 = (110 : Int32) then (
    Option.bind (some (tr_st M 1 14 ((M.1 1 14) + (1 : Int32)))) (fun M3 =>
    Option.bind (show Option (Int32 × Int32 × tr_M) from
      tr_loop (mX7_readsCount_l30 p1) ((0 : Int32), (0 : Int32), M3)
    ) (fun (v5 : Int32 × Int32 × tr_M) =>
      if v5.1 = 0 then (
        some ((0 : Int32), v5.2.2)
      ) else (
        if (mX7_in v5.2.1 (1 : Int32) (10 : Int32)) = 0 then (
          some ((0 : Int32), v5.2.2)
        ) else (
          Option.bind (some (tr_st v5.2.2 1 16 v5.2.1)) (fun M19 =>
          some ((1 : Int32), M19)
          )
        )
      )
    )
    )
  ) else (
    some ((0 : Int32), M)
  )
  )
set_option maxRecDepth 100000 in
set_option maxHeartbeats 4000000 in
theorem C_X7_readsCount (p1 : Int32) (M : tr_M) (r : Int32 × tr_M) (h : mX7_readsCount p1 M = some r) : tr_I yX7_readsCount (xX7_readsCount) [.ref 1, .int p1] M (some (.int r.1)) r.2 := by
  refine tr_I.of (Z := fun q : Int32 × tr_M => (some (.int r.1) : Option Value) = some (.int q.1) ∧ r.2 = q.2) pn_X7 rfl gdM (Nat.le_of_ble_eq_true rfl) (fun Wt => ?_) h ⟨rfl, rfl⟩
  unfold mX7_readsCount
  refine tr_V.aload_n (i := 0) dX7_readsCount_0 rfl rfl ?_
  refine tr_V.iload_n (i := 1) dX7_readsCount_1 rfl rfl ?_
  refine tr_V.aload_n (i := 0) dX7_readsCount_2 rfl rfl ?_
  refine tr_V.getI fl_X7_120 shM_1 rfl dX7_readsCount_3 ?_
  refine tr_V.bd (fun c1 h2 => ?_)
  refine tr_V.callV (C_X7_byteAt p1 (M.1 1 14) M _ h2) yk_X7_byteAt iv_X7_byteAt ml_X7_123 shM_1 rfl ⟨rfl, Nat.le_of_ble_eq_true rfl⟩ rfl (Nat.le_of_ble_eq_true rfl) rfl dX7_readsCount_6 ?_
  refine tr_V.bipush (v := (110 : Int32)) dX7_readsCount_9 (by decide) ?_
  refine tr_V.icmp_eq (tgt := 16) dX7_readsCount_11 (by decide) ?_ ?_
  · refine tr_V.aload_n (i := 0) dX7_readsCount_16 rfl rfl ?_
    refine tr_V.dup rfl dX7_readsCount_17 ?_
    refine tr_V.getI fl_X7_120 shM_1 rfl dX7_readsCount_18 ?_
    refine tr_V.iconst (v := (1 : Int32)) dX7_readsCount_21 (by decide) ?_
    refine tr_V.iadd dX7_readsCount_22 ?_
    refine tr_V.bd (fun M3 h4 => ?_)
    refine tr_V.putI fl_X7_120 shM_1 rfl dX7_readsCount_23 h4 ?_
    refine tr_V.iconst (v := (0 : Int32)) dX7_readsCount_26 (by decide) ?_
    refine tr_V.istore_n (i := 2) dX7_readsCount_27 rfl (Nat.le_of_ble_eq_true rfl) rfl ?_
    refine tr_V.iconst (v := (0 : Int32)) dX7_readsCount_28 (by decide) ?_
    refine tr_V.istore_n (i := 3) dX7_readsCount_29 rfl (Nat.le_of_ble_eq_true rfl) rfl ?_
    refine tr_V.seq (τ := Int32 × Int32 × tr_M) (pc' := 88) (L := fun v5 => [(0, some (.ref 1)), (2, some (.int v5.1)), (3, some (.int v5.2.1))]) (S := fun v5 => []) (Mf := fun v5 => v5.2.2) ?_ ?_
    · refine tr_V.loop (σ := Int32 × Int32 × tr_M) (step := mX7_readsCount_l30 p1) (L := fun s6 => [(0, some (.ref 1)), (1, some (.int p1)), (2, some (.int s6.1)), (3, some (.int s6.2.1))]) (Mf := fun s6 => s6.2.2) ?_ ((0 : Int32), (0 : Int32), M3) ⟨rfl, rfl, rfl, rfl, trivial⟩
      intro s6
      refine tr_V.iload_n (i := 2) dX7_readsCount_30 rfl rfl ?_
      refine tr_V.iconst (v := (2 : Int32)) dX7_readsCount_31 (by decide) ?_
      refine tr_V.icmp_ge (tgt := 88) dX7_readsCount_32 (by decide) ?_ ?_
      · refine tr_V.aload_n (i := 0) dX7_readsCount_35 rfl rfl ?_
        refine tr_V.iload_n (i := 1) dX7_readsCount_36 rfl rfl ?_
        refine tr_V.aload_n (i := 0) dX7_readsCount_37 rfl rfl ?_
        refine tr_V.getI fl_X7_120 shM_1 rfl dX7_readsCount_38 ?_
        refine tr_V.bd (fun c7 h8 => ?_)
        refine tr_V.callV (C_X7_byteAt p1 (s6.2.2.1 1 14) s6.2.2 _ h8) yk_X7_byteAt iv_X7_byteAt ml_X7_123 shM_1 rfl ⟨rfl, Nat.le_of_ble_eq_true rfl⟩ rfl (Nat.le_of_ble_eq_true rfl) rfl dX7_readsCount_41 ?_
        refine tr_V.bipush (v := (48 : Int32)) dX7_readsCount_44 (by decide) ?_
        refine tr_V.bipush (v := (57 : Int32)) dX7_readsCount_46 (by decide) ?_
        refine tr_V.callS (C_X7_in c7 (48 : Int32) (57 : Int32) s6.2.2) yk_X7_in sc_X7_in ml_X7_92 ⟨rfl, Nat.le_of_ble_eq_true rfl⟩ rfl (Nat.le_of_ble_eq_true rfl) rfl dX7_readsCount_48 ?_
        refine tr_V.if_eq (tgt := 88) dX7_readsCount_51 (by decide) ?_ ?_
        · exact tr_V.to (fun h => h) ⟨rfl, rfl, rfl, trivial⟩
        · refine tr_V.bipush (v := (10 : Int32)) dX7_readsCount_54 (by decide) ?_
          refine tr_V.iload_n (i := 3) dX7_readsCount_56 rfl rfl ?_
          refine tr_V.imul dX7_readsCount_57 ?_
          refine tr_V.aload_n (i := 0) dX7_readsCount_58 rfl rfl ?_
          refine tr_V.iload_n (i := 1) dX7_readsCount_59 rfl rfl ?_
          refine tr_V.aload_n (i := 0) dX7_readsCount_60 rfl rfl ?_
          refine tr_V.getI fl_X7_120 shM_1 rfl dX7_readsCount_61 ?_
          refine tr_V.bd (fun c11 h12 => ?_)
          refine tr_V.callV (C_X7_byteAt p1 (s6.2.2.1 1 14) s6.2.2 _ h12) yk_X7_byteAt iv_X7_byteAt ml_X7_123 shM_1 rfl ⟨rfl, Nat.le_of_ble_eq_true rfl⟩ rfl (Nat.le_of_ble_eq_true rfl) rfl dX7_readsCount_64 ?_
          refine tr_V.iadd dX7_readsCount_67 ?_
          refine tr_V.bipush (v := (48 : Int32)) dX7_readsCount_68 (by decide) ?_
          refine tr_V.isub dX7_readsCount_70 ?_
          refine tr_V.bd (fun x13 h14 => ?_)
          refine tr_V.nmI h14 ?_
          refine tr_V.istore_n (i := 3) dX7_readsCount_71 rfl (Nat.le_of_ble_eq_true rfl) rfl ?_
          refine tr_V.aload_n (i := 0) dX7_readsCount_72 rfl rfl ?_
          refine tr_V.dup rfl dX7_readsCount_73 ?_
          refine tr_V.getI fl_X7_120 shM_1 rfl dX7_readsCount_74 ?_
          refine tr_V.iconst (v := (1 : Int32)) dX7_readsCount_77 (by decide) ?_
          refine tr_V.iadd dX7_readsCount_78 ?_
          refine tr_V.bd (fun M15 h16 => ?_)
          refine tr_V.putI fl_X7_120 shM_1 rfl dX7_readsCount_79 h16 ?_
          refine tr_V.iinc (cst := (1 : Int32)) dX7_readsCount_82 rfl (by decide) rfl ?_
          refine tr_V.goto (tgt := 30) dX7_readsCount_85 (by decide) ?_
          exact tr_V.to (fun h => h) ⟨rfl, rfl, rfl, rfl, trivial⟩
      · exact tr_V.to (fun h => h) ⟨rfl, rfl, rfl, trivial⟩
    · intro v5
      refine tr_V.iload_n (i := 2) dX7_readsCount_88 rfl rfl ?_
      refine tr_V.if_eq (tgt := 102) dX7_readsCount_89 (by decide) ?_ ?_
      · refine tr_V.iconst (v := (0 : Int32)) dX7_readsCount_102 (by decide) ?_
        exact tr_V.zret (by decide) dX7_readsCount_103 rfl (fun h => h)
      · refine tr_V.iload_n (i := 3) dX7_readsCount_92 rfl rfl ?_
        refine tr_V.iconst (v := (1 : Int32)) dX7_readsCount_93 (by decide) ?_
        refine tr_V.bipush (v := (10 : Int32)) dX7_readsCount_94 (by decide) ?_
        refine tr_V.callS (C_X7_in v5.2.1 (1 : Int32) (10 : Int32) v5.2.2) yk_X7_in sc_X7_in ml_X7_92 ⟨rfl, Nat.le_of_ble_eq_true rfl⟩ rfl (Nat.le_of_ble_eq_true rfl) rfl dX7_readsCount_96 ?_
        refine tr_V.if_ne (tgt := 104) dX7_readsCount_99 (by decide) ?_ ?_
        · refine tr_V.iconst (v := (0 : Int32)) dX7_readsCount_102 (by decide) ?_
          exact tr_V.zret (by decide) dX7_readsCount_103 rfl (fun h => h)
        · refine tr_V.aload_n (i := 0) dX7_readsCount_104 rfl rfl ?_
          refine tr_V.iload_n (i := 3) dX7_readsCount_105 rfl rfl ?_
          refine tr_V.bd (fun M19 h20 => ?_)
          refine tr_V.putI fl_X7_129 shM_1 rfl dX7_readsCount_106 h20 ?_
          refine tr_V.iconst (v := (1 : Int32)) dX7_readsCount_109 (by decide) ?_
          exact tr_V.zret (by decide) dX7_readsCount_110 rfl (fun h => h)
  · refine tr_V.iconst (v := (0 : Int32)) dX7_readsCount_14 (by decide) ?_
    exact tr_V.zret (by decide) dX7_readsCount_15 rfl (fun h => h)
abbrev xX7_kindOf : tr_X := (cX7_kindOf, 1, RX7, (some .int), 1, shM, 24)
theorem cw_X7_kindOf : Cond.code yX7_kindOf cX7_kindOf 1 (some .int) ∈ tr_tbl := tr_in 1362 (by decide +kernel) rfl
theorem yk_X7_kindOf : tr_yk yX7_kindOf (xX7_kindOf) 1 := ⟨cw_X7_kindOf, in_X7, ⟨by decide +kernel, by decide +kernel, by decide +kernel⟩, Nat.le_of_ble_eq_true rfl⟩
theorem sc_X7_kindOf : Cond.static yX7_kindOf ∈ tr_tbl := tr_in 1361 (by decide +kernel) rfl
def mX7_kindOf' (p0 : Int32) : Option Int32 :=
  if p0 = (33 : Int32) then (
    some (5 : Int32)
  ) else (
  if p0 = (43 : Int32) then (
    some (2 : Int32)
  ) else (
  if p0 = (60 : Int32) then (
    some (1 : Int32)
  ) else (
  if p0 = (63 : Int32) then (
    some (6 : Int32)
  ) else (
  if p0 = (64 : Int32) then (
    some (3 : Int32)
  ) else (
  if p0 = (94 : Int32) then (
    some (4 : Int32)
  ) else (
    some (-9 : Int32)
  ))))))
def mX7_kindOf (p0 : Int32) : Int32 :=
  if p0 = (33 : Int32) then (
    (5 : Int32)
  ) else (
  if p0 = (43 : Int32) then (
    (2 : Int32)
  ) else (
  if p0 = (60 : Int32) then (
    (1 : Int32)
  ) else (
  if p0 = (63 : Int32) then (
    (6 : Int32)
  ) else (
  if p0 = (64 : Int32) then (
    (3 : Int32)
  ) else (
  if p0 = (94 : Int32) then (
    (4 : Int32)
  ) else (
    (-9 : Int32)
  ))))))
theorem mX7_kindOf_eq (p0 : Int32) : mX7_kindOf' p0 = some (mX7_kindOf p0) := by
  unfold mX7_kindOf' mX7_kindOf
  repeat' split
  all_goals rfl
set_option maxRecDepth 100000 in
set_option maxHeartbeats 4000000 in
theorem C_X7_kindOf (p0 : Int32) (M : tr_M) : tr_I yX7_kindOf (xX7_kindOf) [.int p0] M (some (.int (mX7_kindOf p0))) M := by
  refine tr_I.of (Z := fun q : Int32 => (some (.int (mX7_kindOf p0)) : Option Value) = some (.int q) ∧ M = M) pn_X7 rfl gdM (Nat.le_of_ble_eq_true rfl) (fun Wt => ?_) (mX7_kindOf_eq p0) ⟨rfl, rfl⟩
  unfold mX7_kindOf'
  refine tr_V.iload_n (i := 0) dX7_kindOf_0 rfl rfl ?_
  refine tr_V.case (k := (33 : Int32)) (fun c1 => ?_) (fun c1 => ?_)
  · refine tr_V.lookup (tgt := 68) (off := 67) dX7_kindOf_1 (by decide) (by rw [c1]; decide) (by decide) ?_
    refine tr_V.iconst (v := (5 : Int32)) dX7_kindOf_68 (by decide) ?_
    exact tr_V.iret dX7_kindOf_69 rfl (fun h => h)
  · refine tr_V.case (k := (43 : Int32)) (fun c2 => ?_) (fun c2 => ?_)
    · refine tr_V.lookup (tgt := 62) (off := 61) dX7_kindOf_1 (by decide) (by rw [c2]; decide) (by decide) ?_
      refine tr_V.iconst (v := (2 : Int32)) dX7_kindOf_62 (by decide) ?_
      exact tr_V.iret dX7_kindOf_63 rfl (fun h => h)
    · refine tr_V.case (k := (60 : Int32)) (fun c3 => ?_) (fun c3 => ?_)
      · refine tr_V.lookup (tgt := 60) (off := 59) dX7_kindOf_1 (by decide) (by rw [c3]; decide) (by decide) ?_
        refine tr_V.iconst (v := (1 : Int32)) dX7_kindOf_60 (by decide) ?_
        exact tr_V.iret dX7_kindOf_61 rfl (fun h => h)
      · refine tr_V.case (k := (63 : Int32)) (fun c4 => ?_) (fun c4 => ?_)
        · refine tr_V.lookup (tgt := 70) (off := 69) dX7_kindOf_1 (by decide) (by rw [c4]; decide) (by decide) ?_
          refine tr_V.bipush (v := (6 : Int32)) dX7_kindOf_70 (by decide) ?_
          exact tr_V.iret dX7_kindOf_72 rfl (fun h => h)
        · refine tr_V.case (k := (64 : Int32)) (fun c5 => ?_) (fun c5 => ?_)
          · refine tr_V.lookup (tgt := 64) (off := 63) dX7_kindOf_1 (by decide) (by rw [c5]; decide) (by decide) ?_
            refine tr_V.iconst (v := (3 : Int32)) dX7_kindOf_64 (by decide) ?_
            exact tr_V.iret dX7_kindOf_65 rfl (fun h => h)
          · refine tr_V.case (k := (94 : Int32)) (fun c6 => ?_) (fun c6 => ?_)
            · refine tr_V.lookup (tgt := 66) (off := 65) dX7_kindOf_1 (by decide) (by rw [c6]; decide) (by decide) ?_
              refine tr_V.iconst (v := (4 : Int32)) dX7_kindOf_66 (by decide) ?_
              exact tr_V.iret dX7_kindOf_67 rfl (fun h => h)
            · refine tr_V.lookup (tgt := 73) (off := 72) dX7_kindOf_1 (by decide) (by show Op.lookupswitch.offset [(33, 67), (43, 61), (60, 59), (63, 69), (64, 63), (94, 65)] 72 _ = _; rw [lv_osw c1 (by decide), lv_osw c2 (by decide), lv_osw c3 (by decide), lv_osw c4 (by decide), lv_osw c5 (by decide), lv_osw c6 (by decide)]; rfl) (by decide) ?_
              refine tr_V.bipush (v := (-9 : Int32)) dX7_kindOf_73 (by decide) ?_
              exact tr_V.iret dX7_kindOf_75 rfl (fun h => h)
abbrev xX7_readsTie : tr_X := (cX7_readsTie, 4, RX7, (some .boolean), 3, shM, 24)
theorem cw_X7_readsTie : Cond.code yX7_readsTie cX7_readsTie 4 (some .boolean) ∈ tr_tbl := tr_in 1366 (by decide +kernel) rfl
theorem yk_X7_readsTie : tr_yk yX7_readsTie (xX7_readsTie) 2 := ⟨cw_X7_readsTie, in_X7, ⟨by decide +kernel, by decide +kernel, by decide +kernel⟩, Nat.le_of_ble_eq_true rfl⟩
theorem iv_X7_readsTie : Cond.instanceMethod yX7_readsTie ∈ tr_tbl ∧ Cond.selects (yX7_readsTie).cls yX7_readsTie yX7_readsTie ∈ tr_tbl := ⟨tr_in 1365 (by decide +kernel) rfl, tr_in 66 (by decide +kernel) rfl⟩
def mX7_readsTie (p1 : Int32) (p2 : Int32) (M : tr_M) : Option (Int32 × tr_M) :=
  Option.bind (mX7_thing p1 p2 (-1 : Int32) M) (fun c1 =>
  if c1.1 = 0 then (
    some ((0 : Int32), c1.2)
  ) else (
    Option.bind (mX7_figure p1 c1.2) (fun c3 =>
    if c3.1 = 0 then (
      some ((0 : Int32), c3.2)
    ) else (
      Option.bind (tr_wr 100 c3.2 10 (((10 : Int32) * p2) + (c1.2.1 1 15)) (c3.2.1 1 15)) (fun M5 =>
      Option.bind (tr_wr 100 M5 10 (((10 : Int32) * (c1.2.1 1 15)) + p2) (M5.1 1 15)) (fun M7 =>
      some ((1 : Int32), M7)
      )
      )
    )
    )
  )
  )
set_option maxRecDepth 100000 in
set_option maxHeartbeats 4000000 in
theorem C_X7_readsTie (p1 : Int32) (p2 : Int32) (M : tr_M) (r : Int32 × tr_M) (h : mX7_readsTie p1 p2 M = some r) : tr_I yX7_readsTie (xX7_readsTie) [.ref 1, .int p1, .int p2] M (some (.int r.1)) r.2 := by
  refine tr_I.of (Z := fun q : Int32 × tr_M => (some (.int r.1) : Option Value) = some (.int q.1) ∧ r.2 = q.2) pn_X7 rfl gdM (Nat.le_of_ble_eq_true rfl) (fun Wt => ?_) h ⟨rfl, rfl⟩
  unfold mX7_readsTie
  refine tr_V.aload_n (i := 0) dX7_readsTie_0 rfl rfl ?_
  refine tr_V.iload_n (i := 1) dX7_readsTie_1 rfl rfl ?_
  refine tr_V.iload_n (i := 2) dX7_readsTie_2 rfl rfl ?_
  refine tr_V.iconst (v := (-1 : Int32)) dX7_readsTie_3 (by decide) ?_
  refine tr_V.bd (fun c1 h2 => ?_)
  refine tr_V.callV (C_X7_thing p1 p2 (-1 : Int32) M _ h2) yk_X7_thing iv_X7_thing ml_X7_132 shM_1 rfl ⟨rfl, Nat.le_of_ble_eq_true rfl⟩ rfl (Nat.le_of_ble_eq_true rfl) rfl dX7_readsTie_4 ?_
  refine tr_V.if_ne (tgt := 12) dX7_readsTie_7 (by decide) ?_ ?_
  · refine tr_V.iconst (v := (0 : Int32)) dX7_readsTie_10 (by decide) ?_
    exact tr_V.zret (by decide) dX7_readsTie_11 rfl (fun h => h)
  · refine tr_V.aload_n (i := 0) dX7_readsTie_12 rfl rfl ?_
    refine tr_V.getI fl_X7_126 shM_1 rfl dX7_readsTie_13 ?_
    refine tr_V.istore_n (i := 3) dX7_readsTie_16 rfl (Nat.le_of_ble_eq_true rfl) rfl ?_
    refine tr_V.aload_n (i := 0) dX7_readsTie_17 rfl rfl ?_
    refine tr_V.iload_n (i := 1) dX7_readsTie_18 rfl rfl ?_
    refine tr_V.bd (fun c3 h4 => ?_)
    refine tr_V.callV (C_X7_figure p1 c1.2 _ h4) yk_X7_figure iv_X7_figure ml_X7_135 shM_1 rfl ⟨rfl, Nat.le_of_ble_eq_true rfl⟩ rfl (Nat.le_of_ble_eq_true rfl) rfl dX7_readsTie_19 ?_
    refine tr_V.if_ne (tgt := 27) dX7_readsTie_22 (by decide) ?_ ?_
    · refine tr_V.iconst (v := (0 : Int32)) dX7_readsTie_25 (by decide) ?_
      exact tr_V.zret (by decide) dX7_readsTie_26 rfl (fun h => h)
    · refine tr_V.aload_n (i := 0) dX7_readsTie_27 rfl rfl ?_
      refine tr_V.getR (Nat.succ_pos _) fl_X7_35 shM_1 rfl dX7_readsTie_28 ?_
      refine tr_V.bipush (v := (10 : Int32)) dX7_readsTie_31 (by decide) ?_
      refine tr_V.iload_n (i := 2) dX7_readsTie_33 rfl rfl ?_
      refine tr_V.imul dX7_readsTie_34 ?_
      refine tr_V.iload_n (i := 3) dX7_readsTie_35 rfl rfl ?_
      refine tr_V.iadd dX7_readsTie_36 ?_
      refine tr_V.aload_n (i := 0) dX7_readsTie_37 rfl rfl ?_
      refine tr_V.getI fl_X7_126 shM_1 rfl dX7_readsTie_38 ?_
      refine tr_V.bd (fun M5 h6 => ?_)
      refine tr_V.iast h6 shM_10 dX7_readsTie_41 ?_
      refine tr_V.aload_n (i := 0) dX7_readsTie_42 rfl rfl ?_
      refine tr_V.getR (Nat.succ_pos _) fl_X7_35 shM_1 rfl dX7_readsTie_43 ?_
      refine tr_V.bipush (v := (10 : Int32)) dX7_readsTie_46 (by decide) ?_
      refine tr_V.iload_n (i := 3) dX7_readsTie_48 rfl rfl ?_
      refine tr_V.imul dX7_readsTie_49 ?_
      refine tr_V.iload_n (i := 2) dX7_readsTie_50 rfl rfl ?_
      refine tr_V.iadd dX7_readsTie_51 ?_
      refine tr_V.aload_n (i := 0) dX7_readsTie_52 rfl rfl ?_
      refine tr_V.getI fl_X7_126 shM_1 rfl dX7_readsTie_53 ?_
      refine tr_V.bd (fun M7 h8 => ?_)
      refine tr_V.iast h8 shM_10 dX7_readsTie_56 ?_
      refine tr_V.iconst (v := (1 : Int32)) dX7_readsTie_57 (by decide) ?_
      exact tr_V.zret (by decide) dX7_readsTie_58 rfl (fun h => h)
abbrev xX7_readsItem : tr_X := (cX7_readsItem, 9, RX7, (some .boolean), 4, shM, 24)
theorem cw_X7_readsItem : Cond.code yX7_readsItem cX7_readsItem 9 (some .boolean) ∈ tr_tbl := tr_in 1355 (by decide +kernel) rfl
theorem yk_X7_readsItem : tr_yk yX7_readsItem (xX7_readsItem) 1 := ⟨cw_X7_readsItem, in_X7, ⟨by decide +kernel, by decide +kernel, by decide +kernel⟩, Nat.le_of_ble_eq_true rfl⟩
theorem iv_X7_readsItem : Cond.instanceMethod yX7_readsItem ∈ tr_tbl ∧ Cond.selects (yX7_readsItem).cls yX7_readsItem yX7_readsItem ∈ tr_tbl := ⟨tr_in 1354 (by decide +kernel) rfl, tr_in 64 (by decide +kernel) rfl⟩
def mX7_readsItem (p1 : Int32) (M : tr_M) : Option (Int32 × tr_M) :=
  Option.bind (mX7_thing p1 (-1 : Int32) (-1 : Int32) M) (fun c1 =>
  if c1.1 = 0 then (
    some ((0 : Int32), c1.2)
  ) else (
    Option.bind (mX7_byteAt p1 (c1.2.1 1 14) c1.2) (fun c3 =>
    if (mX7_kindOf c3) = (-9 : Int32) then (
      if (mX7_in c3 (65 : Int32) (90 : Int32)) = 0 then (
        some ((0 : Int32), c1.2)
      ) else (
        Option.bind (mX7_readsTie p1 (c1.2.1 1 15) c1.2) (fun c9 =>
        if c9.1 = 0 then (
          some ((0 : Int32), c9.2)
        ) else (
          some ((1 : Int32), c9.2)
        )
        )
      )
    ) else (
      if (c1.2.1 1 17) = (8 : Int32) then (
        Option.bind (some (tr_st c1.2 1 14 (M.1 1 14))) (fun M11 =>
        some ((0 : Int32), M11)
        )
      ) else (
        Option.bind (some (tr_st c1.2 1 14 ((c1.2.1 1 14) + (1 : Int32)))) (fun M13 =>
        Option.bind (show Option (Int32) from
          if (mX7_kindOf c3) = (3 : Int32) then (
            some (1 : Int32)
          ) else (
            if (mX7_kindOf c3) = (4 : Int32) then (
              some (1 : Int32)
            ) else (
              some (0 : Int32)
            )
          )
        ) (fun (v15 : Int32) =>
          Option.bind (show Option ((tr_M) ⊕ (Int32 × tr_M)) from
            if v15 = 0 then (
              Option.bind (mX7_thing p1 (c1.2.1 1 15) (-1 : Int32) M13) (fun c17 =>
              if c17.1 = 0 then (
                some (.inr ((0 : Int32), c17.2))
              ) else (
                some (.inl c17.2)
              )
              )
            ) else (
              Option.bind (mX7_figure p1 M13) (fun c19 =>
              if c19.1 = 0 then (
                some (.inr ((0 : Int32), c19.2))
              ) else (
                some (.inl c19.2)
              )
              )
            )
          ) (tr_el (fun (v16 : tr_M) =>
            Option.bind (show Option ((tr_M) ⊕ (Int32 × tr_M)) from
              if (mX7_kindOf c3) = (6 : Int32) then (
                Option.bind (mX7_thing p1 (c1.2.1 1 15) (v16.1 1 15) v16) (fun c22 =>
                if c22.1 = 0 then (
                  some (.inr ((0 : Int32), c22.2))
                ) else (
                  some (.inl c22.2)
                )
                )
              ) else (
                some (.inl v16)
              )
            ) (tr_el (fun (v21 : tr_M) =>
              Option.bind (tr_wr 40 v21 11 ((5 : Int32) * (v21.1 1 17)) (mX7_kindOf c3)) (fun M24 =>
              Option.bind (tr_wr 40 M24 11 (((5 : Int32) * (v21.1 1 17)) + (1 : Int32)) (c1.2.1 1 15)) (fun M26 =>
              Option.bind (tr_wr 40 M26 11 (((5 : Int32) * (v21.1 1 17)) + (2 : Int32)) (v16.1 1 15)) (fun M28 =>
              Option.bind (show Option (Int32) from
                if (mX7_kindOf c3) = (6 : Int32) then (
                  some (M28.1 1 15)
                ) else (
                  some (0 : Int32)
                )
              ) (fun (v30 : Int32) =>
                Option.bind (tr_wr 40 M28 11 (((5 : Int32) * (v21.1 1 17)) + (3 : Int32)) v30) (fun M31 =>
                Option.bind (tr_wr 40 M31 11 (((5 : Int32) * (v21.1 1 17)) + (4 : Int32)) (0 : Int32)) (fun M33 =>
                Option.bind (some (tr_st M33 1 17 ((M33.1 1 17) + (1 : Int32)))) (fun M35 =>
                some ((1 : Int32), M35)
                )
                )
                )
              )
              )
              )
              )
            ))
          ))
        )
        )
      )
    )
    )
  )
  )
set_option maxRecDepth 100000 in
set_option maxHeartbeats 4000000 in
theorem C_X7_readsItem (p1 : Int32) (M : tr_M) (r : Int32 × tr_M) (h : mX7_readsItem p1 M = some r) : tr_I yX7_readsItem (xX7_readsItem) [.ref 1, .int p1] M (some (.int r.1)) r.2 := by
  refine tr_I.of (Z := fun q : Int32 × tr_M => (some (.int r.1) : Option Value) = some (.int q.1) ∧ r.2 = q.2) pn_X7 rfl gdM (Nat.le_of_ble_eq_true rfl) (fun Wt => ?_) h ⟨rfl, rfl⟩
  unfold mX7_readsItem
  refine tr_V.aload_n (i := 0) dX7_readsItem_0 rfl rfl ?_
  refine tr_V.getI fl_X7_120 shM_1 rfl dX7_readsItem_1 ?_
  refine tr_V.istore_n (i := 2) dX7_readsItem_4 rfl (Nat.le_of_ble_eq_true rfl) rfl ?_
  refine tr_V.aload_n (i := 0) dX7_readsItem_5 rfl rfl ?_
  refine tr_V.iload_n (i := 1) dX7_readsItem_6 rfl rfl ?_
  refine tr_V.iconst (v := (-1 : Int32)) dX7_readsItem_7 (by decide) ?_
  refine tr_V.iconst (v := (-1 : Int32)) dX7_readsItem_8 (by decide) ?_
  refine tr_V.bd (fun c1 h2 => ?_)
  refine tr_V.callV (C_X7_thing p1 (-1 : Int32) (-1 : Int32) M _ h2) yk_X7_thing iv_X7_thing ml_X7_132 shM_1 rfl ⟨rfl, Nat.le_of_ble_eq_true rfl⟩ rfl (Nat.le_of_ble_eq_true rfl) rfl dX7_readsItem_9 ?_
  refine tr_V.if_ne (tgt := 17) dX7_readsItem_12 (by decide) ?_ ?_
  · refine tr_V.iconst (v := (0 : Int32)) dX7_readsItem_15 (by decide) ?_
    exact tr_V.zret (by decide) dX7_readsItem_16 rfl (fun h => h)
  · refine tr_V.aload_n (i := 0) dX7_readsItem_17 rfl rfl ?_
    refine tr_V.getI fl_X7_126 shM_1 rfl dX7_readsItem_18 ?_
    refine tr_V.istore_n (i := 3) dX7_readsItem_21 rfl (Nat.le_of_ble_eq_true rfl) rfl ?_
    refine tr_V.aload_n (i := 0) dX7_readsItem_22 rfl rfl ?_
    refine tr_V.iload_n (i := 1) dX7_readsItem_23 rfl rfl ?_
    refine tr_V.aload_n (i := 0) dX7_readsItem_24 rfl rfl ?_
    refine tr_V.getI fl_X7_120 shM_1 rfl dX7_readsItem_25 ?_
    refine tr_V.bd (fun c3 h4 => ?_)
    refine tr_V.callV (C_X7_byteAt p1 (c1.2.1 1 14) c1.2 _ h4) yk_X7_byteAt iv_X7_byteAt ml_X7_123 shM_1 rfl ⟨rfl, Nat.le_of_ble_eq_true rfl⟩ rfl (Nat.le_of_ble_eq_true rfl) rfl dX7_readsItem_28 ?_
    refine tr_V.istore (i := 4) dX7_readsItem_31 (Nat.le_of_ble_eq_true rfl) rfl ?_
    refine tr_V.iload dX7_readsItem_33 rfl ?_
    refine tr_V.callS (C_X7_kindOf c3 c1.2) yk_X7_kindOf sc_X7_kindOf ml_X7_138 ⟨rfl, Nat.le_of_ble_eq_true rfl⟩ rfl (Nat.le_of_ble_eq_true rfl) rfl dX7_readsItem_35 ?_
    refine tr_V.istore (i := 5) dX7_readsItem_38 (Nat.le_of_ble_eq_true rfl) rfl ?_
    refine tr_V.iload dX7_readsItem_40 rfl ?_
    refine tr_V.bipush (v := (-9 : Int32)) dX7_readsItem_42 (by decide) ?_
    refine tr_V.icmp_ne (tgt := 74) dX7_readsItem_44 (by decide) ?_ ?_
    · refine tr_V.iload dX7_readsItem_47 rfl ?_
      refine tr_V.bipush (v := (65 : Int32)) dX7_readsItem_49 (by decide) ?_
      refine tr_V.bipush (v := (90 : Int32)) dX7_readsItem_51 (by decide) ?_
      refine tr_V.callS (C_X7_in c3 (65 : Int32) (90 : Int32) c1.2) yk_X7_in sc_X7_in ml_X7_92 ⟨rfl, Nat.le_of_ble_eq_true rfl⟩ rfl (Nat.le_of_ble_eq_true rfl) rfl dX7_readsItem_53 ?_
      refine tr_V.if_eq (tgt := 72) dX7_readsItem_56 (by decide) ?_ ?_
      · refine tr_V.iconst (v := (0 : Int32)) dX7_readsItem_72 (by decide) ?_
        exact tr_V.zret (by decide) dX7_readsItem_73 rfl (fun h => h)
      · refine tr_V.aload_n (i := 0) dX7_readsItem_59 rfl rfl ?_
        refine tr_V.iload_n (i := 1) dX7_readsItem_60 rfl rfl ?_
        refine tr_V.iload_n (i := 3) dX7_readsItem_61 rfl rfl ?_
        refine tr_V.bd (fun c9 h10 => ?_)
        refine tr_V.callV (C_X7_readsTie p1 (c1.2.1 1 15) c1.2 _ h10) yk_X7_readsTie iv_X7_readsTie ml_X7_141 shM_1 rfl ⟨rfl, Nat.le_of_ble_eq_true rfl⟩ rfl (Nat.le_of_ble_eq_true rfl) rfl dX7_readsItem_62 ?_
        refine tr_V.if_eq (tgt := 72) dX7_readsItem_65 (by decide) ?_ ?_
        · refine tr_V.iconst (v := (0 : Int32)) dX7_readsItem_72 (by decide) ?_
          exact tr_V.zret (by decide) dX7_readsItem_73 rfl (fun h => h)
        · refine tr_V.iconst (v := (1 : Int32)) dX7_readsItem_68 (by decide) ?_
          refine tr_V.goto (tgt := 73) dX7_readsItem_69 (by decide) ?_
          exact tr_V.zret (by decide) dX7_readsItem_73 rfl (fun h => h)
    · refine tr_V.aload_n (i := 0) dX7_readsItem_74 rfl rfl ?_
      refine tr_V.getI fl_X7_145 shM_1 rfl dX7_readsItem_75 ?_
      refine tr_V.bipush (v := (8 : Int32)) dX7_readsItem_78 (by decide) ?_
      refine tr_V.icmp_ne (tgt := 90) dX7_readsItem_80 (by decide) ?_ ?_
      · refine tr_V.aload_n (i := 0) dX7_readsItem_83 rfl rfl ?_
        refine tr_V.iload_n (i := 2) dX7_readsItem_84 rfl rfl ?_
        refine tr_V.bd (fun M11 h12 => ?_)
        refine tr_V.putI fl_X7_120 shM_1 rfl dX7_readsItem_85 h12 ?_
        refine tr_V.iconst (v := (0 : Int32)) dX7_readsItem_88 (by decide) ?_
        exact tr_V.zret (by decide) dX7_readsItem_89 rfl (fun h => h)
      · refine tr_V.aload_n (i := 0) dX7_readsItem_90 rfl rfl ?_
        refine tr_V.dup rfl dX7_readsItem_91 ?_
        refine tr_V.getI fl_X7_120 shM_1 rfl dX7_readsItem_92 ?_
        refine tr_V.iconst (v := (1 : Int32)) dX7_readsItem_95 (by decide) ?_
        refine tr_V.iadd dX7_readsItem_96 ?_
        refine tr_V.bd (fun M13 h14 => ?_)
        refine tr_V.putI fl_X7_120 shM_1 rfl dX7_readsItem_97 h14 ?_
        refine tr_V.iload dX7_readsItem_100 rfl ?_
        refine tr_V.iconst (v := (3 : Int32)) dX7_readsItem_102 (by decide) ?_
        refine tr_V.seq (τ := Int32) (pc' := 117) (L := fun v15 => [(0, some (.ref 1)), (1, some (.int p1)), (3, some (.int (c1.2.1 1 15))), (5, some (.int (mX7_kindOf c3)))]) (S := fun v15 => [.int v15]) (Mf := fun v15 => M13) ?_ ?_
        · refine tr_V.icmp_eq (tgt := 112) dX7_readsItem_103 (by decide) ?_ ?_
          · refine tr_V.iconst (v := (1 : Int32)) dX7_readsItem_112 (by decide) ?_
            refine tr_V.goto (tgt := 117) dX7_readsItem_113 (by decide) ?_
            exact tr_V.to (fun h => h) ⟨rfl, rfl, rfl, rfl, trivial⟩
          · refine tr_V.iload dX7_readsItem_106 rfl ?_
            refine tr_V.iconst (v := (4 : Int32)) dX7_readsItem_108 (by decide) ?_
            refine tr_V.icmp_ne (tgt := 116) dX7_readsItem_109 (by decide) ?_ ?_
            · refine tr_V.iconst (v := (1 : Int32)) dX7_readsItem_112 (by decide) ?_
              refine tr_V.goto (tgt := 117) dX7_readsItem_113 (by decide) ?_
              exact tr_V.to (fun h => h) ⟨rfl, rfl, rfl, rfl, trivial⟩
            · refine tr_V.iconst (v := (0 : Int32)) dX7_readsItem_116 (by decide) ?_
              exact tr_V.to (fun h => h) ⟨rfl, rfl, rfl, rfl, trivial⟩
        · intro v15
          refine tr_V.istore (i := 6) dX7_readsItem_117 (Nat.le_of_ble_eq_true rfl) rfl ?_
          refine tr_V.iload dX7_readsItem_119 rfl ?_
          refine tr_V.seqE (τ := tr_M) (pc' := 147) (L := fun v16 => [(0, some (.ref 1)), (1, some (.int p1)), (3, some (.int (c1.2.1 1 15))), (5, some (.int (mX7_kindOf c3)))]) (S := fun v16 => []) (Mf := fun v16 => v16) ?_ ?_
          · refine tr_V.if_eq (tgt := 135) dX7_readsItem_121 (by decide) ?_ ?_
            · refine tr_V.aload_n (i := 0) dX7_readsItem_135 rfl rfl ?_
              refine tr_V.iload_n (i := 1) dX7_readsItem_136 rfl rfl ?_
              refine tr_V.iload_n (i := 3) dX7_readsItem_137 rfl rfl ?_
              refine tr_V.iconst (v := (-1 : Int32)) dX7_readsItem_138 (by decide) ?_
              refine tr_V.bd (fun c17 h18 => ?_)
              refine tr_V.callV (C_X7_thing p1 (c1.2.1 1 15) (-1 : Int32) M13 _ h18) yk_X7_thing iv_X7_thing ml_X7_132 shM_1 rfl ⟨rfl, Nat.le_of_ble_eq_true rfl⟩ rfl (Nat.le_of_ble_eq_true rfl) rfl dX7_readsItem_139 ?_
              refine tr_V.if_ne (tgt := 147) dX7_readsItem_142 (by decide) ?_ ?_
              · refine tr_V.iconst (v := (0 : Int32)) dX7_readsItem_145 (by decide) ?_
                exact tr_V.zret (by decide) dX7_readsItem_146 rfl (fun h => h)
              · exact tr_V.to (fun h => h) ⟨rfl, rfl, rfl, rfl, trivial⟩
            · refine tr_V.aload_n (i := 0) dX7_readsItem_124 rfl rfl ?_
              refine tr_V.iload_n (i := 1) dX7_readsItem_125 rfl rfl ?_
              refine tr_V.bd (fun c19 h20 => ?_)
              refine tr_V.callV (C_X7_figure p1 M13 _ h20) yk_X7_figure iv_X7_figure ml_X7_135 shM_1 rfl ⟨rfl, Nat.le_of_ble_eq_true rfl⟩ rfl (Nat.le_of_ble_eq_true rfl) rfl dX7_readsItem_126 ?_
              refine tr_V.if_eq (tgt := 145) dX7_readsItem_129 (by decide) ?_ ?_
              · refine tr_V.iconst (v := (0 : Int32)) dX7_readsItem_145 (by decide) ?_
                exact tr_V.zret (by decide) dX7_readsItem_146 rfl (fun h => h)
              · refine tr_V.goto (tgt := 147) dX7_readsItem_132 (by decide) ?_
                exact tr_V.to (fun h => h) ⟨rfl, rfl, rfl, rfl, trivial⟩
          · intro v16
            refine tr_V.aload_n (i := 0) dX7_readsItem_147 rfl rfl ?_
            refine tr_V.getI fl_X7_126 shM_1 rfl dX7_readsItem_148 ?_
            refine tr_V.istore (i := 7) dX7_readsItem_151 (Nat.le_of_ble_eq_true rfl) rfl ?_
            refine tr_V.iload dX7_readsItem_153 rfl ?_
            refine tr_V.bipush (v := (6 : Int32)) dX7_readsItem_155 (by decide) ?_
            refine tr_V.seqE (τ := tr_M) (pc' := 173) (L := fun v21 => [(0, some (.ref 1)), (3, some (.int (c1.2.1 1 15))), (5, some (.int (mX7_kindOf c3))), (7, some (.int (v16.1 1 15)))]) (S := fun v21 => []) (Mf := fun v21 => v21) ?_ ?_
            · refine tr_V.icmp_ne (tgt := 173) dX7_readsItem_157 (by decide) ?_ ?_
              · refine tr_V.aload_n (i := 0) dX7_readsItem_160 rfl rfl ?_
                refine tr_V.iload_n (i := 1) dX7_readsItem_161 rfl rfl ?_
                refine tr_V.iload_n (i := 3) dX7_readsItem_162 rfl rfl ?_
                refine tr_V.iload dX7_readsItem_163 rfl ?_
                refine tr_V.bd (fun c22 h23 => ?_)
                refine tr_V.callV (C_X7_thing p1 (c1.2.1 1 15) (v16.1 1 15) v16 _ h23) yk_X7_thing iv_X7_thing ml_X7_132 shM_1 rfl ⟨rfl, Nat.le_of_ble_eq_true rfl⟩ rfl (Nat.le_of_ble_eq_true rfl) rfl dX7_readsItem_165 ?_
                refine tr_V.if_ne (tgt := 173) dX7_readsItem_168 (by decide) ?_ ?_
                · refine tr_V.iconst (v := (0 : Int32)) dX7_readsItem_171 (by decide) ?_
                  exact tr_V.zret (by decide) dX7_readsItem_172 rfl (fun h => h)
                · exact tr_V.to (fun h => h) ⟨rfl, rfl, rfl, rfl, trivial⟩
              · exact tr_V.to (fun h => h) ⟨rfl, rfl, rfl, rfl, trivial⟩
            · intro v21
              refine tr_V.iconst (v := (5 : Int32)) dX7_readsItem_173 (by decide) ?_
              refine tr_V.aload_n (i := 0) dX7_readsItem_174 rfl rfl ?_
              refine tr_V.getI fl_X7_145 shM_1 rfl dX7_readsItem_175 ?_
              refine tr_V.imul dX7_readsItem_178 ?_
              refine tr_V.istore (i := 8) dX7_readsItem_179 (Nat.le_of_ble_eq_true rfl) rfl ?_
              refine tr_V.aload_n (i := 0) dX7_readsItem_181 rfl rfl ?_
              refine tr_V.getR (Nat.succ_pos _) fl_X7_38 shM_1 rfl dX7_readsItem_182 ?_
              refine tr_V.iload dX7_readsItem_185 rfl ?_
              refine tr_V.iload dX7_readsItem_187 rfl ?_
              refine tr_V.bd (fun M24 h25 => ?_)
              refine tr_V.iast h25 shM_11 dX7_readsItem_189 ?_
              refine tr_V.aload_n (i := 0) dX7_readsItem_190 rfl rfl ?_
              refine tr_V.getR (Nat.succ_pos _) fl_X7_38 shM_1 rfl dX7_readsItem_191 ?_
              refine tr_V.iload dX7_readsItem_194 rfl ?_
              refine tr_V.iconst (v := (1 : Int32)) dX7_readsItem_196 (by decide) ?_
              refine tr_V.iadd dX7_readsItem_197 ?_
              refine tr_V.iload_n (i := 3) dX7_readsItem_198 rfl rfl ?_
              refine tr_V.bd (fun M26 h27 => ?_)
              refine tr_V.iast h27 shM_11 dX7_readsItem_199 ?_
              refine tr_V.aload_n (i := 0) dX7_readsItem_200 rfl rfl ?_
              refine tr_V.getR (Nat.succ_pos _) fl_X7_38 shM_1 rfl dX7_readsItem_201 ?_
              refine tr_V.iload dX7_readsItem_204 rfl ?_
              refine tr_V.iconst (v := (2 : Int32)) dX7_readsItem_206 (by decide) ?_
              refine tr_V.iadd dX7_readsItem_207 ?_
              refine tr_V.iload dX7_readsItem_208 rfl ?_
              refine tr_V.bd (fun M28 h29 => ?_)
              refine tr_V.iast h29 shM_11 dX7_readsItem_210 ?_
              refine tr_V.aload_n (i := 0) dX7_readsItem_211 rfl rfl ?_
              refine tr_V.getR (Nat.succ_pos _) fl_X7_38 shM_1 rfl dX7_readsItem_212 ?_
              refine tr_V.iload dX7_readsItem_215 rfl ?_
              refine tr_V.iconst (v := (3 : Int32)) dX7_readsItem_217 (by decide) ?_
              refine tr_V.iadd dX7_readsItem_218 ?_
              refine tr_V.iload dX7_readsItem_219 rfl ?_
              refine tr_V.bipush (v := (6 : Int32)) dX7_readsItem_221 (by decide) ?_
              refine tr_V.seq (τ := Int32) (pc' := 234) (L := fun v30 => [(0, some (.ref 1)), (8, some (.int ((5 : Int32) * (v21.1 1 17))))]) (S := fun v30 => [.int v30, .int (((5 : Int32) * (v21.1 1 17)) + (3 : Int32)), .ref 11]) (Mf := fun v30 => M28) ?_ ?_
              · refine tr_V.icmp_ne (tgt := 233) dX7_readsItem_223 (by decide) ?_ ?_
                · refine tr_V.aload_n (i := 0) dX7_readsItem_226 rfl rfl ?_
                  refine tr_V.getI fl_X7_126 shM_1 rfl dX7_readsItem_227 ?_
                  refine tr_V.goto (tgt := 234) dX7_readsItem_230 (by decide) ?_
                  exact tr_V.to (fun h => h) ⟨rfl, rfl, trivial⟩
                · refine tr_V.iconst (v := (0 : Int32)) dX7_readsItem_233 (by decide) ?_
                  exact tr_V.to (fun h => h) ⟨rfl, rfl, trivial⟩
              · intro v30
                refine tr_V.bd (fun M31 h32 => ?_)
                refine tr_V.iast h32 shM_11 dX7_readsItem_234 ?_
                refine tr_V.aload_n (i := 0) dX7_readsItem_235 rfl rfl ?_
                refine tr_V.getR (Nat.succ_pos _) fl_X7_38 shM_1 rfl dX7_readsItem_236 ?_
                refine tr_V.iload dX7_readsItem_239 rfl ?_
                refine tr_V.iconst (v := (4 : Int32)) dX7_readsItem_241 (by decide) ?_
                refine tr_V.iadd dX7_readsItem_242 ?_
                refine tr_V.iconst (v := (0 : Int32)) dX7_readsItem_243 (by decide) ?_
                refine tr_V.bd (fun M33 h34 => ?_)
                refine tr_V.iast h34 shM_11 dX7_readsItem_244 ?_
                refine tr_V.aload_n (i := 0) dX7_readsItem_245 rfl rfl ?_
                refine tr_V.dup rfl dX7_readsItem_246 ?_
                refine tr_V.getI fl_X7_145 shM_1 rfl dX7_readsItem_247 ?_
                refine tr_V.iconst (v := (1 : Int32)) dX7_readsItem_250 (by decide) ?_
                refine tr_V.iadd dX7_readsItem_251 ?_
                refine tr_V.bd (fun M35 h36 => ?_)
                refine tr_V.putI fl_X7_145 shM_1 rfl dX7_readsItem_252 h36 ?_
                refine tr_V.iconst (v := (1 : Int32)) dX7_readsItem_255 (by decide) ?_
                exact tr_V.zret (by decide) dX7_readsItem_256 rfl (fun h => h)
abbrev xX7_faultOf : tr_X := (cX7_faultOf, 3, RX7, (some .int), 5, shM, 24)
theorem cw_X7_faultOf : Cond.code yX7_faultOf cX7_faultOf 3 (some .int) ∈ tr_tbl := tr_in 1343 (by decide +kernel) rfl
theorem yk_X7_faultOf : tr_yk yX7_faultOf (xX7_faultOf) 1 := ⟨cw_X7_faultOf, in_X7, ⟨by decide +kernel, by decide +kernel, by decide +kernel⟩, Nat.le_of_ble_eq_true rfl⟩
theorem iv_X7_faultOf : Cond.instanceMethod yX7_faultOf ∈ tr_tbl ∧ Cond.selects (yX7_faultOf).cls yX7_faultOf yX7_faultOf ∈ tr_tbl := ⟨tr_in 1342 (by decide +kernel) rfl, tr_in 61 (by decide +kernel) rfl⟩
def mX7_faultOf_l17  (s8 : Int32 × tr_M) : Option ((Int32 × tr_M) ⊕ (tr_M)) :=
  if s8.1 < (100 : Int32) then (
    Option.bind (tr_wr 100 s8.2 10 s8.1 (0 : Int32)) (fun M9 =>
    some (.inl ((s8.1 + (1 : Int32)), M9))
    )
  ) else (
    some (.inr s8.2)
  )
def mX7_faultOf_l36 (p1 : Int32) (s12 : tr_M) : Option ((tr_M) ⊕ ((tr_M) ⊕ (Int32 × tr_M))) :=
  Option.bind (tr_rd 4 s12 6 p1) (fun a13 =>
  if (s12.1 1 14) < a13 then (
    Option.bind (mX7_byteAt p1 (s12.1 1 14) s12) (fun c15 =>
    if c15 = (32 : Int32) then (
      Option.bind (some (tr_st s12 1 14 ((s12.1 1 14) + (1 : Int32)))) (fun M17 =>
      some (.inl M17)
      )
    ) else (
      if (s12.1 1 16) = 0 then (
        Option.bind (mX7_readsCount p1 s12) (fun c19 =>
        if c19.1 = 0 then (
          some (.inr (.inr ((c19.2.1 1 14), c19.2)))
        ) else (
          some (.inl c19.2)
        )
        )
      ) else (
        Option.bind (mX7_readsItem p1 s12) (fun c21 =>
        if c21.1 = 0 then (
          some (.inr (.inr ((c21.2.1 1 14), c21.2)))
        ) else (
          some (.inl c21.2)
        )
        )
      )
    )
    )
  ) else (
    some (.inr (.inl s12))
  )
  )
def mX7_faultOf (p1 : Int32) (M : tr_M) : Option (Int32 × tr_M) :=
  Option.bind (some (tr_st M 1 14 (0 : Int32))) (fun M1 =>
  Option.bind (some (tr_st M1 1 16 (0 : Int32))) (fun M3 =>
  Option.bind (some (tr_st M3 1 17 (0 : Int32))) (fun M5 =>
  Option.bind (show Option (tr_M) from
    tr_loop (mX7_faultOf_l17) ((0 : Int32), M5)
  ) (fun (v7 : tr_M) =>
    Option.bind (show Option ((tr_M) ⊕ (Int32 × tr_M)) from
      tr_loop (mX7_faultOf_l36 p1) v7
    ) (tr_el (fun (v11 : tr_M) =>
      if (v11.1 1 16) = 0 then (
        Option.bind (tr_rd 4 v11 6 p1) (fun a23 =>
        some (a23, v11)
        )
      ) else (
        some ((-9 : Int32), v11)
      )
    ))
  )
  )
  )
  )
set_option maxRecDepth 100000 in
set_option maxHeartbeats 4000000 in
theorem C_X7_faultOf (p1 : Int32) (M : tr_M) (r : Int32 × tr_M) (h : mX7_faultOf p1 M = some r) : tr_I yX7_faultOf (xX7_faultOf) [.ref 1, .int p1] M (some (.int r.1)) r.2 := by
  refine tr_I.of (Z := fun q : Int32 × tr_M => (some (.int r.1) : Option Value) = some (.int q.1) ∧ r.2 = q.2) pn_X7 rfl gdM (Nat.le_of_ble_eq_true rfl) (fun Wt => ?_) h ⟨rfl, rfl⟩
  unfold mX7_faultOf
  refine tr_V.aload_n (i := 0) dX7_faultOf_0 rfl rfl ?_
  refine tr_V.iconst (v := (0 : Int32)) dX7_faultOf_1 (by decide) ?_
  refine tr_V.bd (fun M1 h2 => ?_)
  refine tr_V.putI fl_X7_120 shM_1 rfl dX7_faultOf_2 h2 ?_
  refine tr_V.aload_n (i := 0) dX7_faultOf_5 rfl rfl ?_
  refine tr_V.iconst (v := (0 : Int32)) dX7_faultOf_6 (by decide) ?_
  refine tr_V.bd (fun M3 h4 => ?_)
  refine tr_V.putI fl_X7_129 shM_1 rfl dX7_faultOf_7 h4 ?_
  refine tr_V.aload_n (i := 0) dX7_faultOf_10 rfl rfl ?_
  refine tr_V.iconst (v := (0 : Int32)) dX7_faultOf_11 (by decide) ?_
  refine tr_V.bd (fun M5 h6 => ?_)
  refine tr_V.putI fl_X7_145 shM_1 rfl dX7_faultOf_12 h6 ?_
  refine tr_V.iconst (v := (0 : Int32)) dX7_faultOf_15 (by decide) ?_
  refine tr_V.istore_n (i := 2) dX7_faultOf_16 rfl (Nat.le_of_ble_eq_true rfl) rfl ?_
  refine tr_V.seq (τ := tr_M) (pc' := 36) (L := fun v7 => [(0, some (.ref 1)), (1, some (.int p1))]) (S := fun v7 => []) (Mf := fun v7 => v7) ?_ ?_
  · refine tr_V.loop (σ := Int32 × tr_M) (step := mX7_faultOf_l17) (L := fun s8 => [(0, some (.ref 1)), (1, some (.int p1)), (2, some (.int s8.1))]) (Mf := fun s8 => s8.2) ?_ ((0 : Int32), M5) ⟨rfl, rfl, rfl, trivial⟩
    intro s8
    refine tr_V.iload_n (i := 2) dX7_faultOf_17 rfl rfl ?_
    refine tr_V.bipush (v := (100 : Int32)) dX7_faultOf_18 (by decide) ?_
    refine tr_V.icmp_ge (tgt := 36) dX7_faultOf_20 (by decide) ?_ ?_
    · refine tr_V.aload_n (i := 0) dX7_faultOf_23 rfl rfl ?_
      refine tr_V.getR (Nat.succ_pos _) fl_X7_35 shM_1 rfl dX7_faultOf_24 ?_
      refine tr_V.iload_n (i := 2) dX7_faultOf_27 rfl rfl ?_
      refine tr_V.iconst (v := (0 : Int32)) dX7_faultOf_28 (by decide) ?_
      refine tr_V.bd (fun M9 h10 => ?_)
      refine tr_V.iast h10 shM_10 dX7_faultOf_29 ?_
      refine tr_V.iinc (cst := (1 : Int32)) dX7_faultOf_30 rfl (by decide) rfl ?_
      refine tr_V.goto (tgt := 17) dX7_faultOf_33 (by decide) ?_
      exact tr_V.to (fun h => h) ⟨rfl, rfl, rfl, trivial⟩
    · exact tr_V.to (fun h => h) ⟨rfl, rfl, trivial⟩
  · intro v7
    refine tr_V.seqE (τ := tr_M) (pc' := 107) (L := fun v11 => [(0, some (.ref 1)), (1, some (.int p1))]) (S := fun v11 => []) (Mf := fun v11 => v11) ?_ ?_
    · refine tr_V.loop (σ := tr_M) (step := mX7_faultOf_l36 p1) (L := fun s12 => [(0, some (.ref 1)), (1, some (.int p1))]) (Mf := fun s12 => s12) ?_ v7 ⟨rfl, rfl, trivial⟩
      intro s12
      refine tr_V.aload_n (i := 0) dX7_faultOf_36 rfl rfl ?_
      refine tr_V.getI fl_X7_120 shM_1 rfl dX7_faultOf_37 ?_
      refine tr_V.aload_n (i := 0) dX7_faultOf_40 rfl rfl ?_
      refine tr_V.getR (Nat.succ_pos _) fl_X7_22 shM_1 rfl dX7_faultOf_41 ?_
      refine tr_V.iload_n (i := 1) dX7_faultOf_44 rfl rfl ?_
      refine tr_V.bd (fun a13 h14 => ?_)
      refine tr_V.iald h14 shM_6 dX7_faultOf_45 ?_
      refine tr_V.icmp_ge (tgt := 107) dX7_faultOf_46 (by decide) ?_ ?_
      · refine tr_V.aload_n (i := 0) dX7_faultOf_49 rfl rfl ?_
        refine tr_V.iload_n (i := 1) dX7_faultOf_50 rfl rfl ?_
        refine tr_V.aload_n (i := 0) dX7_faultOf_51 rfl rfl ?_
        refine tr_V.getI fl_X7_120 shM_1 rfl dX7_faultOf_52 ?_
        refine tr_V.bd (fun c15 h16 => ?_)
        refine tr_V.callV (C_X7_byteAt p1 (s12.1 1 14) s12 _ h16) yk_X7_byteAt iv_X7_byteAt ml_X7_123 shM_1 rfl ⟨rfl, Nat.le_of_ble_eq_true rfl⟩ rfl (Nat.le_of_ble_eq_true rfl) rfl dX7_faultOf_55 ?_
        refine tr_V.bipush (v := (32 : Int32)) dX7_faultOf_58 (by decide) ?_
        refine tr_V.icmp_ne (tgt := 76) dX7_faultOf_60 (by decide) ?_ ?_
        · refine tr_V.aload_n (i := 0) dX7_faultOf_63 rfl rfl ?_
          refine tr_V.dup rfl dX7_faultOf_64 ?_
          refine tr_V.getI fl_X7_120 shM_1 rfl dX7_faultOf_65 ?_
          refine tr_V.iconst (v := (1 : Int32)) dX7_faultOf_68 (by decide) ?_
          refine tr_V.iadd dX7_faultOf_69 ?_
          refine tr_V.bd (fun M17 h18 => ?_)
          refine tr_V.putI fl_X7_120 shM_1 rfl dX7_faultOf_70 h18 ?_
          refine tr_V.goto (tgt := 36) dX7_faultOf_73 (by decide) ?_
          exact tr_V.to (fun h => h) ⟨rfl, rfl, trivial⟩
        · refine tr_V.aload_n (i := 0) dX7_faultOf_76 rfl rfl ?_
          refine tr_V.getI fl_X7_129 shM_1 rfl dX7_faultOf_77 ?_
          refine tr_V.if_ne (tgt := 94) dX7_faultOf_80 (by decide) ?_ ?_
          · refine tr_V.aload_n (i := 0) dX7_faultOf_83 rfl rfl ?_
            refine tr_V.iload_n (i := 1) dX7_faultOf_84 rfl rfl ?_
            refine tr_V.bd (fun c19 h20 => ?_)
            refine tr_V.callV (C_X7_readsCount p1 s12 _ h20) yk_X7_readsCount iv_X7_readsCount ml_X7_148 shM_1 rfl ⟨rfl, Nat.le_of_ble_eq_true rfl⟩ rfl (Nat.le_of_ble_eq_true rfl) rfl dX7_faultOf_85 ?_
            refine tr_V.if_eq (tgt := 102) dX7_faultOf_88 (by decide) ?_ ?_
            · refine tr_V.aload_n (i := 0) dX7_faultOf_102 rfl rfl ?_
              refine tr_V.getI fl_X7_120 shM_1 rfl dX7_faultOf_103 ?_
              exact tr_V.iret dX7_faultOf_106 rfl (fun h => h)
            · refine tr_V.goto (tgt := 36) dX7_faultOf_91 (by decide) ?_
              exact tr_V.to (fun h => h) ⟨rfl, rfl, trivial⟩
          · refine tr_V.aload_n (i := 0) dX7_faultOf_94 rfl rfl ?_
            refine tr_V.iload_n (i := 1) dX7_faultOf_95 rfl rfl ?_
            refine tr_V.bd (fun c21 h22 => ?_)
            refine tr_V.callV (C_X7_readsItem p1 s12 _ h22) yk_X7_readsItem iv_X7_readsItem ml_X7_151 shM_1 rfl ⟨rfl, Nat.le_of_ble_eq_true rfl⟩ rfl (Nat.le_of_ble_eq_true rfl) rfl dX7_faultOf_96 ?_
            refine tr_V.if_ne (tgt := 36) dX7_faultOf_99 (by decide) ?_ ?_
            · refine tr_V.aload_n (i := 0) dX7_faultOf_102 rfl rfl ?_
              refine tr_V.getI fl_X7_120 shM_1 rfl dX7_faultOf_103 ?_
              exact tr_V.iret dX7_faultOf_106 rfl (fun h => h)
            · exact tr_V.to (fun h => h) ⟨rfl, rfl, trivial⟩
      · exact tr_V.to (fun h => h) ⟨rfl, rfl, trivial⟩
    · intro v11
      refine tr_V.aload_n (i := 0) dX7_faultOf_107 rfl rfl ?_
      refine tr_V.getI fl_X7_129 shM_1 rfl dX7_faultOf_108 ?_
      refine tr_V.if_ne (tgt := 123) dX7_faultOf_111 (by decide) ?_ ?_
      · refine tr_V.aload_n (i := 0) dX7_faultOf_114 rfl rfl ?_
        refine tr_V.getR (Nat.succ_pos _) fl_X7_22 shM_1 rfl dX7_faultOf_115 ?_
        refine tr_V.iload_n (i := 1) dX7_faultOf_118 rfl rfl ?_
        refine tr_V.bd (fun a23 h24 => ?_)
        refine tr_V.iald h24 shM_6 dX7_faultOf_119 ?_
        refine tr_V.goto (tgt := 125) dX7_faultOf_120 (by decide) ?_
        exact tr_V.iret dX7_faultOf_125 rfl (fun h => h)
      · refine tr_V.bipush (v := (-9 : Int32)) dX7_faultOf_123 (by decide) ?_
        exact tr_V.iret dX7_faultOf_125 rfl (fun h => h)
abbrev xX7_fault : tr_X := (cX7_fault, 2, RX7, (some .int), 6, shM, 24)
theorem cw_X7_fault : Cond.code yX7_fault cX7_fault 2 (some .int) ∈ tr_tbl := tr_in 1339 (by decide +kernel) rfl
theorem yk_X7_fault : tr_yk yX7_fault (xX7_fault) 1 := ⟨cw_X7_fault, in_X7, ⟨by decide +kernel, by decide +kernel, by decide +kernel⟩, Nat.le_of_ble_eq_true rfl⟩
theorem iv_X7_fault : Cond.instanceMethod yX7_fault ∈ tr_tbl ∧ Cond.selects (yX7_fault).cls yX7_fault yX7_fault ∈ tr_tbl := ⟨tr_in 1337 (by decide +kernel) rfl, tr_in 1338 (by decide +kernel) rfl⟩
def mX7_fault (p1 : Int32) (M : tr_M) : Option (Int32 × tr_M) :=
  Option.bind (mX7_isText p1) (fun c1 =>
  if c1 = 0 then (
    some ((-1 : Int32), M)
  ) else (
    Option.bind (tr_rd 4 M 6 p1) (fun a3 =>
    if a3 < 0 then (
      Option.bind (mX7_meets (1 : Int32) M) (fun c5 =>
      some (c5.1, c5.2)
      )
    ) else (
      Option.bind (mX7_faultOf p1 M) (fun c7 =>
      some (c7.1, c7.2)
      )
    )
    )
  )
  )
set_option maxRecDepth 100000 in
set_option maxHeartbeats 4000000 in
theorem C_X7_fault (p1 : Int32) (M : tr_M) (r : Int32 × tr_M) (h : mX7_fault p1 M = some r) : tr_I yX7_fault (xX7_fault) [.ref 1, .int p1] M (some (.int r.1)) r.2 := by
  refine tr_I.of (Z := fun q : Int32 × tr_M => (some (.int r.1) : Option Value) = some (.int q.1) ∧ r.2 = q.2) pn_X7 rfl gdM (Nat.le_of_ble_eq_true rfl) (fun Wt => ?_) h ⟨rfl, rfl⟩
  unfold mX7_fault
  refine tr_V.iload_n (i := 1) dX7_fault_0 rfl rfl ?_
  refine tr_V.bd (fun c1 h2 => ?_)
  refine tr_V.callS (C_X7_isText p1 M _ h2) yk_X7_isText sc_X7_isText ml_X7_117 ⟨rfl, Nat.le_of_ble_eq_true rfl⟩ rfl (Nat.le_of_ble_eq_true rfl) rfl dX7_fault_1 ?_
  refine tr_V.if_ne (tgt := 9) dX7_fault_4 (by decide) ?_ ?_
  · refine tr_V.iconst (v := (-1 : Int32)) dX7_fault_7 (by decide) ?_
    exact tr_V.iret dX7_fault_8 rfl (fun h => h)
  · refine tr_V.aload_n (i := 0) dX7_fault_9 rfl rfl ?_
    refine tr_V.getR (Nat.succ_pos _) fl_X7_22 shM_1 rfl dX7_fault_10 ?_
    refine tr_V.iload_n (i := 1) dX7_fault_13 rfl rfl ?_
    refine tr_V.bd (fun a3 h4 => ?_)
    refine tr_V.iald h4 shM_6 dX7_fault_14 ?_
    refine tr_V.if_ge (tgt := 26) dX7_fault_15 (by decide) ?_ ?_
    · refine tr_V.aload_n (i := 0) dX7_fault_18 rfl rfl ?_
      refine tr_V.iconst (v := (1 : Int32)) dX7_fault_19 (by decide) ?_
      refine tr_V.bd (fun c5 h6 => ?_)
      refine tr_V.callV (C_X7_meets (1 : Int32) M _ h6) yk_X7_meets iv_X7_meets ml_X7_106 shM_1 rfl ⟨rfl, Nat.le_of_ble_eq_true rfl⟩ rfl (Nat.le_of_ble_eq_true rfl) rfl dX7_fault_20 ?_
      refine tr_V.goto (tgt := 31) dX7_fault_23 (by decide) ?_
      exact tr_V.iret dX7_fault_31 rfl (fun h => h)
    · refine tr_V.aload_n (i := 0) dX7_fault_26 rfl rfl ?_
      refine tr_V.iload_n (i := 1) dX7_fault_27 rfl rfl ?_
      refine tr_V.bd (fun c7 h8 => ?_)
      refine tr_V.callV (C_X7_faultOf p1 M _ h8) yk_X7_faultOf iv_X7_faultOf ml_X7_154 shM_1 rfl ⟨rfl, Nat.le_of_ble_eq_true rfl⟩ rfl (Nat.le_of_ble_eq_true rfl) rfl dX7_fault_28 ?_
      exact tr_V.iret dX7_fault_31 rfl (fun h => h)
abbrev xX7_world : tr_X := (cX7_world, 3, RX7, (some .int), 6, shM, 24)
theorem cw_X7_world : Cond.code yX7_world cX7_world 3 (some .int) ∈ tr_tbl := tr_in 1374 (by decide +kernel) rfl
theorem yk_X7_world : tr_yk yX7_world (xX7_world) 1 := ⟨cw_X7_world, in_X7, ⟨by decide +kernel, by decide +kernel, by decide +kernel⟩, Nat.le_of_ble_eq_true rfl⟩
theorem iv_X7_world : Cond.instanceMethod yX7_world ∈ tr_tbl ∧ Cond.selects (yX7_world).cls yX7_world yX7_world ∈ tr_tbl := ⟨tr_in 1372 (by decide +kernel) rfl, tr_in 1373 (by decide +kernel) rfl⟩
def mX7_world_l55  (s14 : Int32 × tr_M) : Option ((Int32 × tr_M) ⊕ (tr_M)) :=
  if s14.1 < (100 : Int32) then (
    Option.bind (tr_rd 100 s14.2 10 s14.1) (fun a15 =>
    Option.bind (tr_wr 100 s14.2 8 s14.1 a15) (fun M17 =>
    some (.inl ((s14.1 + (1 : Int32)), M17))
    )
    )
  ) else (
    some (.inr s14.2)
  )
def mX7_world_l81  (s19 : Int32 × tr_M) : Option ((Int32 × tr_M) ⊕ (Int32 × tr_M)) :=
  if s19.1 < (40 : Int32) then (
    Option.bind (tr_rd 40 s19.2 11 s19.1) (fun a20 =>
    Option.bind (tr_wr 40 s19.2 9 s19.1 a20) (fun M22 =>
    some (.inl ((s19.1 + (1 : Int32)), M22))
    )
    )
  ) else (
    some (.inr ((s19.2.1 1 10), s19.2))
  )
def mX7_world (p1 : Int32) (M : tr_M) : Option (Int32 × tr_M) :=
  Option.bind (mX7_isText p1) (fun c1 =>
  if c1 = 0 then (
    some ((-1 : Int32), M)
  ) else (
    Option.bind (tr_rd 4 M 6 p1) (fun a3 =>
    if a3 < 0 then (
      Option.bind (mX7_meets (1 : Int32) M) (fun c5 =>
      some (c5.1, c5.2)
      )
    ) else (
      Option.bind (mX7_faultOf p1 M) (fun c7 =>
      if c7.1 = (-9 : Int32) then (
        Option.bind (some (tr_st c7.2 1 10 (c7.2.1 1 16))) (fun M9 =>
        Option.bind (some (tr_st M9 1 12 (M9.1 1 17))) (fun M11 =>
        Option.bind (show Option (tr_M) from
          tr_loop (mX7_world_l55) ((0 : Int32), M11)
        ) (fun (v13 : tr_M) =>
          tr_loop (mX7_world_l81) ((0 : Int32), v13)
        )
        )
        )
      ) else (
        some ((-4 : Int32), c7.2)
      )
      )
    )
    )
  )
  )
set_option maxRecDepth 100000 in
set_option maxHeartbeats 4000000 in
theorem C_X7_world (p1 : Int32) (M : tr_M) (r : Int32 × tr_M) (h : mX7_world p1 M = some r) : tr_I yX7_world (xX7_world) [.ref 1, .int p1] M (some (.int r.1)) r.2 := by
  refine tr_I.of (Z := fun q : Int32 × tr_M => (some (.int r.1) : Option Value) = some (.int q.1) ∧ r.2 = q.2) pn_X7 rfl gdM (Nat.le_of_ble_eq_true rfl) (fun Wt => ?_) h ⟨rfl, rfl⟩
  unfold mX7_world
  refine tr_V.iload_n (i := 1) dX7_world_0 rfl rfl ?_
  refine tr_V.bd (fun c1 h2 => ?_)
  refine tr_V.callS (C_X7_isText p1 M _ h2) yk_X7_isText sc_X7_isText ml_X7_117 ⟨rfl, Nat.le_of_ble_eq_true rfl⟩ rfl (Nat.le_of_ble_eq_true rfl) rfl dX7_world_1 ?_
  refine tr_V.if_ne (tgt := 9) dX7_world_4 (by decide) ?_ ?_
  · refine tr_V.iconst (v := (-1 : Int32)) dX7_world_7 (by decide) ?_
    exact tr_V.iret dX7_world_8 rfl (fun h => h)
  · refine tr_V.aload_n (i := 0) dX7_world_9 rfl rfl ?_
    refine tr_V.getR (Nat.succ_pos _) fl_X7_22 shM_1 rfl dX7_world_10 ?_
    refine tr_V.iload_n (i := 1) dX7_world_13 rfl rfl ?_
    refine tr_V.bd (fun a3 h4 => ?_)
    refine tr_V.iald h4 shM_6 dX7_world_14 ?_
    refine tr_V.if_ge (tgt := 24) dX7_world_15 (by decide) ?_ ?_
    · refine tr_V.aload_n (i := 0) dX7_world_18 rfl rfl ?_
      refine tr_V.iconst (v := (1 : Int32)) dX7_world_19 (by decide) ?_
      refine tr_V.bd (fun c5 h6 => ?_)
      refine tr_V.callV (C_X7_meets (1 : Int32) M _ h6) yk_X7_meets iv_X7_meets ml_X7_106 shM_1 rfl ⟨rfl, Nat.le_of_ble_eq_true rfl⟩ rfl (Nat.le_of_ble_eq_true rfl) rfl dX7_world_20 ?_
      exact tr_V.iret dX7_world_23 rfl (fun h => h)
    · refine tr_V.aload_n (i := 0) dX7_world_24 rfl rfl ?_
      refine tr_V.iload_n (i := 1) dX7_world_25 rfl rfl ?_
      refine tr_V.bd (fun c7 h8 => ?_)
      refine tr_V.callV (C_X7_faultOf p1 M _ h8) yk_X7_faultOf iv_X7_faultOf ml_X7_154 shM_1 rfl ⟨rfl, Nat.le_of_ble_eq_true rfl⟩ rfl (Nat.le_of_ble_eq_true rfl) rfl dX7_world_26 ?_
      refine tr_V.bipush (v := (-9 : Int32)) dX7_world_29 (by decide) ?_
      refine tr_V.icmp_eq (tgt := 37) dX7_world_31 (by decide) ?_ ?_
      · refine tr_V.aload_n (i := 0) dX7_world_37 rfl rfl ?_
        refine tr_V.aload_n (i := 0) dX7_world_38 rfl rfl ?_
        refine tr_V.getI fl_X7_129 shM_1 rfl dX7_world_39 ?_
        refine tr_V.bd (fun M9 h10 => ?_)
        refine tr_V.putI fl_X7_157 shM_1 rfl dX7_world_42 h10 ?_
        refine tr_V.aload_n (i := 0) dX7_world_45 rfl rfl ?_
        refine tr_V.aload_n (i := 0) dX7_world_46 rfl rfl ?_
        refine tr_V.getI fl_X7_145 shM_1 rfl dX7_world_47 ?_
        refine tr_V.bd (fun M11 h12 => ?_)
        refine tr_V.putI fl_X7_160 shM_1 rfl dX7_world_50 h12 ?_
        refine tr_V.iconst (v := (0 : Int32)) dX7_world_53 (by decide) ?_
        refine tr_V.istore_n (i := 2) dX7_world_54 rfl (Nat.le_of_ble_eq_true rfl) rfl ?_
        refine tr_V.seq (τ := tr_M) (pc' := 79) (L := fun v13 => [(0, some (.ref 1))]) (S := fun v13 => []) (Mf := fun v13 => v13) ?_ ?_
        · refine tr_V.loop (σ := Int32 × tr_M) (step := mX7_world_l55) (L := fun s14 => [(0, some (.ref 1)), (2, some (.int s14.1))]) (Mf := fun s14 => s14.2) ?_ ((0 : Int32), M11) ⟨rfl, rfl, trivial⟩
          intro s14
          refine tr_V.iload_n (i := 2) dX7_world_55 rfl rfl ?_
          refine tr_V.bipush (v := (100 : Int32)) dX7_world_56 (by decide) ?_
          refine tr_V.icmp_ge (tgt := 79) dX7_world_58 (by decide) ?_ ?_
          · refine tr_V.aload_n (i := 0) dX7_world_61 rfl rfl ?_
            refine tr_V.getR (Nat.succ_pos _) fl_X7_29 shM_1 rfl dX7_world_62 ?_
            refine tr_V.iload_n (i := 2) dX7_world_65 rfl rfl ?_
            refine tr_V.aload_n (i := 0) dX7_world_66 rfl rfl ?_
            refine tr_V.getR (Nat.succ_pos _) fl_X7_35 shM_1 rfl dX7_world_67 ?_
            refine tr_V.iload_n (i := 2) dX7_world_70 rfl rfl ?_
            refine tr_V.bd (fun a15 h16 => ?_)
            refine tr_V.iald h16 shM_10 dX7_world_71 ?_
            refine tr_V.bd (fun M17 h18 => ?_)
            refine tr_V.iast h18 shM_8 dX7_world_72 ?_
            refine tr_V.iinc (cst := (1 : Int32)) dX7_world_73 rfl (by decide) rfl ?_
            refine tr_V.goto (tgt := 55) dX7_world_76 (by decide) ?_
            exact tr_V.to (fun h => h) ⟨rfl, rfl, trivial⟩
          · exact tr_V.to (fun h => h) ⟨rfl, trivial⟩
        · intro v13
          refine tr_V.iconst (v := (0 : Int32)) dX7_world_79 (by decide) ?_
          refine tr_V.istore_n (i := 2) dX7_world_80 rfl (Nat.le_of_ble_eq_true rfl) rfl ?_
          refine tr_V.loop (σ := Int32 × tr_M) (step := mX7_world_l81) (L := fun s19 => [(0, some (.ref 1)), (2, some (.int s19.1))]) (Mf := fun s19 => s19.2) ?_ ((0 : Int32), v13) ⟨rfl, rfl, trivial⟩
          intro s19
          refine tr_V.iload_n (i := 2) dX7_world_81 rfl rfl ?_
          refine tr_V.bipush (v := (40 : Int32)) dX7_world_82 (by decide) ?_
          refine tr_V.icmp_ge (tgt := 105) dX7_world_84 (by decide) ?_ ?_
          · refine tr_V.aload_n (i := 0) dX7_world_87 rfl rfl ?_
            refine tr_V.getR (Nat.succ_pos _) fl_X7_32 shM_1 rfl dX7_world_88 ?_
            refine tr_V.iload_n (i := 2) dX7_world_91 rfl rfl ?_
            refine tr_V.aload_n (i := 0) dX7_world_92 rfl rfl ?_
            refine tr_V.getR (Nat.succ_pos _) fl_X7_38 shM_1 rfl dX7_world_93 ?_
            refine tr_V.iload_n (i := 2) dX7_world_96 rfl rfl ?_
            refine tr_V.bd (fun a20 h21 => ?_)
            refine tr_V.iald h21 shM_11 dX7_world_97 ?_
            refine tr_V.bd (fun M22 h23 => ?_)
            refine tr_V.iast h23 shM_9 dX7_world_98 ?_
            refine tr_V.iinc (cst := (1 : Int32)) dX7_world_99 rfl (by decide) rfl ?_
            refine tr_V.goto (tgt := 81) dX7_world_102 (by decide) ?_
            exact tr_V.to (fun h => h) ⟨rfl, rfl, trivial⟩
          · refine tr_V.aload_n (i := 0) dX7_world_105 rfl rfl ?_
            refine tr_V.getI fl_X7_157 shM_1 rfl dX7_world_106 ?_
            exact tr_V.iret dX7_world_109 rfl (fun h => h)
      · refine tr_V.bipush (v := (-4 : Int32)) dX7_world_34 (by decide) ?_
        exact tr_V.iret dX7_world_36 rfl (fun h => h)
abbrev xX7_isThing : tr_X := (cX7_isThing, 2, RX7, (some .boolean), 2, shM, 24)
theorem cw_X7_isThing : Cond.code yX7_isThing cX7_isThing 2 (some .boolean) ∈ tr_tbl := tr_in 1382 (by decide +kernel) rfl
theorem yk_X7_isThing : tr_yk yX7_isThing (xX7_isThing) 1 := ⟨cw_X7_isThing, in_X7, ⟨by decide +kernel, by decide +kernel, by decide +kernel⟩, Nat.le_of_ble_eq_true rfl⟩
theorem iv_X7_isThing : Cond.instanceMethod yX7_isThing ∈ tr_tbl ∧ Cond.selects (yX7_isThing).cls yX7_isThing yX7_isThing ∈ tr_tbl := ⟨tr_in 1381 (by decide +kernel) rfl, tr_in 68 (by decide +kernel) rfl⟩
def mX7_isThing (p1 : Int32) (M : tr_M) : Option (Int32) :=
  Option.bind (tr_gd ((mX7_in p1 (0 : Int32) ((M.1 1 10) - (1 : Int32))) &&& 1 == (mX7_in p1 (0 : Int32) ((M.1 1 10) - (1 : Int32))))) (fun _ => some (mX7_in p1 (0 : Int32) ((M.1 1 10) - (1 : Int32))))
set_option maxRecDepth 100000 in
set_option maxHeartbeats 4000000 in
theorem C_X7_isThing (p1 : Int32) (M : tr_M) (r : Int32) (h : mX7_isThing p1 M = some r) : tr_I yX7_isThing (xX7_isThing) [.ref 1, .int p1] M (some (.int r)) M := by
  refine tr_I.of (Z := fun q : Int32 => (some (.int r) : Option Value) = some (.int q) ∧ M = M) pn_X7 rfl gdM (Nat.le_of_ble_eq_true rfl) (fun Wt => ?_) h ⟨rfl, rfl⟩
  unfold mX7_isThing
  refine tr_V.iload_n (i := 1) dX7_isThing_0 rfl rfl ?_
  refine tr_V.iconst (v := (0 : Int32)) dX7_isThing_1 (by decide) ?_
  refine tr_V.aload_n (i := 0) dX7_isThing_2 rfl rfl ?_
  refine tr_V.getI fl_X7_157 shM_1 rfl dX7_isThing_3 ?_
  refine tr_V.iconst (v := (1 : Int32)) dX7_isThing_6 (by decide) ?_
  refine tr_V.isub dX7_isThing_7 ?_
  refine tr_V.callS (C_X7_in p1 (0 : Int32) ((M.1 1 10) - (1 : Int32)) M) yk_X7_in sc_X7_in ml_X7_92 ⟨rfl, Nat.le_of_ble_eq_true rfl⟩ rfl (Nat.le_of_ble_eq_true rfl) rfl dX7_isThing_8 ?_
  refine tr_V.gd (fun h3 => ?_)
  exact tr_V.zret h3 dX7_isThing_11 rfl (fun h => h)
abbrev xX7_weight : tr_X := (cX7_weight, 3, RX7, (some .int), 1, shM, 24)
theorem cw_X7_weight : Cond.code yX7_weight cX7_weight 3 (some .int) ∈ tr_tbl := tr_in 1386 (by decide +kernel) rfl
theorem yk_X7_weight : tr_yk yX7_weight (xX7_weight) 2 := ⟨cw_X7_weight, in_X7, ⟨by decide +kernel, by decide +kernel, by decide +kernel⟩, Nat.le_of_ble_eq_true rfl⟩
theorem iv_X7_weight : Cond.instanceMethod yX7_weight ∈ tr_tbl ∧ Cond.selects (yX7_weight).cls yX7_weight yX7_weight ∈ tr_tbl := ⟨tr_in 1385 (by decide +kernel) rfl, tr_in 69 (by decide +kernel) rfl⟩
def mX7_weight (p1 : Int32) (p2 : Int32) (M : tr_M) : Option (Int32) :=
  Option.bind (tr_rd 100 M 8 (((10 : Int32) * p1) + p2)) (fun a1 =>
  some a1
  )
set_option maxRecDepth 100000 in
set_option maxHeartbeats 4000000 in
theorem C_X7_weight (p1 : Int32) (p2 : Int32) (M : tr_M) (r : Int32) (h : mX7_weight p1 p2 M = some r) : tr_I yX7_weight (xX7_weight) [.ref 1, .int p1, .int p2] M (some (.int r)) M := by
  refine tr_I.of (Z := fun q : Int32 => (some (.int r) : Option Value) = some (.int q) ∧ M = M) pn_X7 rfl gdM (Nat.le_of_ble_eq_true rfl) (fun Wt => ?_) h ⟨rfl, rfl⟩
  unfold mX7_weight
  refine tr_V.aload_n (i := 0) dX7_weight_0 rfl rfl ?_
  refine tr_V.getR (Nat.succ_pos _) fl_X7_29 shM_1 rfl dX7_weight_1 ?_
  refine tr_V.bipush (v := (10 : Int32)) dX7_weight_4 (by decide) ?_
  refine tr_V.iload_n (i := 1) dX7_weight_6 rfl rfl ?_
  refine tr_V.imul dX7_weight_7 ?_
  refine tr_V.iload_n (i := 2) dX7_weight_8 rfl rfl ?_
  refine tr_V.iadd dX7_weight_9 ?_
  refine tr_V.bd (fun a1 h2 => ?_)
  refine tr_V.iald h2 shM_8 dX7_weight_10 ?_
  exact tr_V.iret dX7_weight_11 rfl (fun h => h)
abbrev xX7_layTie : tr_X := (cX7_layTie, 4, RX7, (Option.none : Option Jvm.ClassFile.FieldType), 1, shM, 24)
theorem cw_X7_layTie : Cond.code yX7_layTie cX7_layTie 4 (Option.none : Option Jvm.ClassFile.FieldType) ∈ tr_tbl := tr_in 1390 (by decide +kernel) rfl
theorem yk_X7_layTie : tr_yk yX7_layTie (xX7_layTie) 3 := ⟨cw_X7_layTie, in_X7, ⟨by decide +kernel, by decide +kernel, by decide +kernel⟩, Nat.le_of_ble_eq_true rfl⟩
theorem iv_X7_layTie : Cond.instanceMethod yX7_layTie ∈ tr_tbl ∧ Cond.selects (yX7_layTie).cls yX7_layTie yX7_layTie ∈ tr_tbl := ⟨tr_in 1389 (by decide +kernel) rfl, tr_in 70 (by decide +kernel) rfl⟩
def mX7_layTie (p1 : Int32) (p2 : Int32) (p3 : Int32) (M : tr_M) : Option (tr_M) :=
  Option.bind (tr_wr 100 M 8 (((10 : Int32) * p1) + p2) p3) (fun M1 =>
  Option.bind (tr_wr 100 M1 8 (((10 : Int32) * p2) + p1) p3) (fun M3 =>
  some M3
  )
  )
set_option maxRecDepth 100000 in
set_option maxHeartbeats 4000000 in
theorem C_X7_layTie (p1 : Int32) (p2 : Int32) (p3 : Int32) (M M' : tr_M) (h : mX7_layTie p1 p2 p3 M = some M') : tr_I yX7_layTie (xX7_layTie) [.ref 1, .int p1, .int p2, .int p3] M none M' := by
  refine tr_I.of (Z := fun q : tr_M => (none : Option Value) = none ∧ M' = q) pn_X7 rfl gdM (Nat.le_of_ble_eq_true rfl) (fun Wt => ?_) h ⟨rfl, rfl⟩
  unfold mX7_layTie
  refine tr_V.aload_n (i := 0) dX7_layTie_0 rfl rfl ?_
  refine tr_V.getR (Nat.succ_pos _) fl_X7_29 shM_1 rfl dX7_layTie_1 ?_
  refine tr_V.bipush (v := (10 : Int32)) dX7_layTie_4 (by decide) ?_
  refine tr_V.iload_n (i := 1) dX7_layTie_6 rfl rfl ?_
  refine tr_V.imul dX7_layTie_7 ?_
  refine tr_V.iload_n (i := 2) dX7_layTie_8 rfl rfl ?_
  refine tr_V.iadd dX7_layTie_9 ?_
  refine tr_V.iload_n (i := 3) dX7_layTie_10 rfl rfl ?_
  refine tr_V.bd (fun M1 h2 => ?_)
  refine tr_V.iast h2 shM_8 dX7_layTie_11 ?_
  refine tr_V.aload_n (i := 0) dX7_layTie_12 rfl rfl ?_
  refine tr_V.getR (Nat.succ_pos _) fl_X7_29 shM_1 rfl dX7_layTie_13 ?_
  refine tr_V.bipush (v := (10 : Int32)) dX7_layTie_16 (by decide) ?_
  refine tr_V.iload_n (i := 2) dX7_layTie_18 rfl rfl ?_
  refine tr_V.imul dX7_layTie_19 ?_
  refine tr_V.iload_n (i := 1) dX7_layTie_20 rfl rfl ?_
  refine tr_V.iadd dX7_layTie_21 ?_
  refine tr_V.iload_n (i := 3) dX7_layTie_22 rfl rfl ?_
  refine tr_V.bd (fun M3 h4 => ?_)
  refine tr_V.iast h4 shM_8 dX7_layTie_23 ?_
  exact tr_V.vret dX7_layTie_24 rfl (fun h => h)
abbrev xX7_tie : tr_X := (cX7_tie, 5, RX7, (some .int), 3, shM, 24)
theorem cw_X7_tie : Cond.code yX7_tie cX7_tie 5 (some .int) ∈ tr_tbl := tr_in 1378 (by decide +kernel) rfl
theorem yk_X7_tie : tr_yk yX7_tie (xX7_tie) 3 := ⟨cw_X7_tie, in_X7, ⟨by decide +kernel, by decide +kernel, by decide +kernel⟩, Nat.le_of_ble_eq_true rfl⟩
theorem iv_X7_tie : Cond.instanceMethod yX7_tie ∈ tr_tbl ∧ Cond.selects (yX7_tie).cls yX7_tie yX7_tie ∈ tr_tbl := ⟨tr_in 1376 (by decide +kernel) rfl, tr_in 1377 (by decide +kernel) rfl⟩
def mX7_tie (p1 : Int32) (p2 : Int32) (p3 : Int32) (M : tr_M) : Option (Int32 × tr_M) :=
  Option.bind (mX7_isThing p1 M) (fun c1 =>
  if c1 = 0 then (
    some ((-1 : Int32), M)
  ) else (
    Option.bind (mX7_isThing p2 M) (fun c3 =>
    if c3 = 0 then (
      some ((-1 : Int32), M)
    ) else (
      if p1 = p2 then (
        some ((-1 : Int32), M)
      ) else (
        Option.bind (show Option ((Unit) ⊕ (Int32 × tr_M)) from
          if p3 = (-9 : Int32) then (
            some (.inl ())
          ) else (
            if (mX7_in p3 (0 : Int32) (9 : Int32)) = 0 then (
              some (.inr ((-1 : Int32), M))
            ) else (
              some (.inl ())
            )
          )
        ) (tr_el (fun (v5 : Unit) =>
          Option.bind (mX7_weight p1 p2 M) (fun c8 =>
          Option.bind (show Option (Int32) from
            if p3 = (-9 : Int32) then (
              some c8
            ) else (
              some p3
            )
          ) (fun (v10 : Int32) =>
            Option.bind (mX7_layTie p1 p2 v10 M) (fun c11 =>
            some (c8, c11)
            )
          )
          )
        ))
      )
    )
    )
  )
  )
set_option maxRecDepth 100000 in
set_option maxHeartbeats 4000000 in
theorem C_X7_tie (p1 : Int32) (p2 : Int32) (p3 : Int32) (M : tr_M) (r : Int32 × tr_M) (h : mX7_tie p1 p2 p3 M = some r) : tr_I yX7_tie (xX7_tie) [.ref 1, .int p1, .int p2, .int p3] M (some (.int r.1)) r.2 := by
  refine tr_I.of (Z := fun q : Int32 × tr_M => (some (.int r.1) : Option Value) = some (.int q.1) ∧ r.2 = q.2) pn_X7 rfl gdM (Nat.le_of_ble_eq_true rfl) (fun Wt => ?_) h ⟨rfl, rfl⟩
  unfold mX7_tie
  refine tr_V.aload_n (i := 0) dX7_tie_0 rfl rfl ?_
  refine tr_V.iload_n (i := 1) dX7_tie_1 rfl rfl ?_
  refine tr_V.bd (fun c1 h2 => ?_)
  refine tr_V.callV (C_X7_isThing p1 M _ h2) yk_X7_isThing iv_X7_isThing ml_X7_163 shM_1 rfl ⟨rfl, Nat.le_of_ble_eq_true rfl⟩ rfl (Nat.le_of_ble_eq_true rfl) rfl dX7_tie_2 ?_
  refine tr_V.if_eq (tgt := 37) dX7_tie_5 (by decide) ?_ ?_
  · refine tr_V.iconst (v := (-1 : Int32)) dX7_tie_37 (by decide) ?_
    exact tr_V.iret dX7_tie_38 rfl (fun h => h)
  · refine tr_V.aload_n (i := 0) dX7_tie_8 rfl rfl ?_
    refine tr_V.iload_n (i := 2) dX7_tie_9 rfl rfl ?_
    refine tr_V.bd (fun c3 h4 => ?_)
    refine tr_V.callV (C_X7_isThing p2 M _ h4) yk_X7_isThing iv_X7_isThing ml_X7_163 shM_1 rfl ⟨rfl, Nat.le_of_ble_eq_true rfl⟩ rfl (Nat.le_of_ble_eq_true rfl) rfl dX7_tie_10 ?_
    refine tr_V.if_eq (tgt := 37) dX7_tie_13 (by decide) ?_ ?_
    · refine tr_V.iconst (v := (-1 : Int32)) dX7_tie_37 (by decide) ?_
      exact tr_V.iret dX7_tie_38 rfl (fun h => h)
    · refine tr_V.iload_n (i := 1) dX7_tie_16 rfl rfl ?_
      refine tr_V.iload_n (i := 2) dX7_tie_17 rfl rfl ?_
      refine tr_V.icmp_eq (tgt := 37) dX7_tie_18 (by decide) ?_ ?_
      · refine tr_V.iconst (v := (-1 : Int32)) dX7_tie_37 (by decide) ?_
        exact tr_V.iret dX7_tie_38 rfl (fun h => h)
      · refine tr_V.iload_n (i := 3) dX7_tie_21 rfl rfl ?_
        refine tr_V.bipush (v := (-9 : Int32)) dX7_tie_22 (by decide) ?_
        refine tr_V.seqE (τ := Unit) (pc' := 39) (L := fun v5 => [(0, some (.ref 1)), (1, some (.int p1)), (2, some (.int p2)), (3, some (.int p3))]) (S := fun v5 => []) (Mf := fun v5 => M) ?_ ?_
        · refine tr_V.icmp_eq (tgt := 39) dX7_tie_24 (by decide) ?_ ?_
          · exact tr_V.to (fun h => h) ⟨rfl, rfl, rfl, rfl, trivial⟩
          · refine tr_V.iload_n (i := 3) dX7_tie_27 rfl rfl ?_
            refine tr_V.iconst (v := (0 : Int32)) dX7_tie_28 (by decide) ?_
            refine tr_V.bipush (v := (9 : Int32)) dX7_tie_29 (by decide) ?_
            refine tr_V.callS (C_X7_in p3 (0 : Int32) (9 : Int32) M) yk_X7_in sc_X7_in ml_X7_92 ⟨rfl, Nat.le_of_ble_eq_true rfl⟩ rfl (Nat.le_of_ble_eq_true rfl) rfl dX7_tie_31 ?_
            refine tr_V.if_ne (tgt := 39) dX7_tie_34 (by decide) ?_ ?_
            · refine tr_V.iconst (v := (-1 : Int32)) dX7_tie_37 (by decide) ?_
              exact tr_V.iret dX7_tie_38 rfl (fun h => h)
            · exact tr_V.to (fun h => h) ⟨rfl, rfl, rfl, rfl, trivial⟩
        · intro v5
          refine tr_V.aload_n (i := 0) dX7_tie_39 rfl rfl ?_
          refine tr_V.iload_n (i := 1) dX7_tie_40 rfl rfl ?_
          refine tr_V.iload_n (i := 2) dX7_tie_41 rfl rfl ?_
          refine tr_V.bd (fun c8 h9 => ?_)
          refine tr_V.callV (C_X7_weight p1 p2 M _ h9) yk_X7_weight iv_X7_weight ml_X7_166 shM_1 rfl ⟨rfl, Nat.le_of_ble_eq_true rfl⟩ rfl (Nat.le_of_ble_eq_true rfl) rfl dX7_tie_42 ?_
          refine tr_V.istore (i := 4) dX7_tie_45 (Nat.le_of_ble_eq_true rfl) rfl ?_
          refine tr_V.aload_n (i := 0) dX7_tie_47 rfl rfl ?_
          refine tr_V.iload_n (i := 1) dX7_tie_48 rfl rfl ?_
          refine tr_V.iload_n (i := 2) dX7_tie_49 rfl rfl ?_
          refine tr_V.iload_n (i := 3) dX7_tie_50 rfl rfl ?_
          refine tr_V.bipush (v := (-9 : Int32)) dX7_tie_51 (by decide) ?_
          refine tr_V.seq (τ := Int32) (pc' := 62) (L := fun v10 => [(4, some (.int c8))]) (S := fun v10 => [.int v10, .int p2, .int p1, .ref 1]) (Mf := fun v10 => M) ?_ ?_
          · refine tr_V.icmp_ne (tgt := 61) dX7_tie_53 (by decide) ?_ ?_
            · refine tr_V.iload dX7_tie_56 rfl ?_
              refine tr_V.goto (tgt := 62) dX7_tie_58 (by decide) ?_
              exact tr_V.to (fun h => h) ⟨rfl, trivial⟩
            · refine tr_V.iload_n (i := 3) dX7_tie_61 rfl rfl ?_
              exact tr_V.to (fun h => h) ⟨rfl, trivial⟩
          · intro v10
            refine tr_V.bd (fun c11 h12 => ?_)
            refine tr_V.callV (C_X7_layTie p1 p2 v10 M _ h12) yk_X7_layTie iv_X7_layTie ml_X7_169 shM_1 rfl ⟨rfl, Nat.le_of_ble_eq_true rfl⟩ rfl (Nat.le_of_ble_eq_true rfl) rfl dX7_tie_62 ?_
            refine tr_V.iload dX7_tie_65 rfl ?_
            exact tr_V.iret dX7_tie_67 rfl (fun h => h)
abbrev xX7_isRuleTold : tr_X := (cX7_isRuleTold, 5, RX7, (some .boolean), 3, shM, 24)
theorem cw_X7_isRuleTold : Cond.code yX7_isRuleTold cX7_isRuleTold 5 (some .boolean) ∈ tr_tbl := tr_in 1398 (by decide +kernel) rfl
theorem yk_X7_isRuleTold : tr_yk yX7_isRuleTold (xX7_isRuleTold) 4 := ⟨cw_X7_isRuleTold, in_X7, ⟨by decide +kernel, by decide +kernel, by decide +kernel⟩, Nat.le_of_ble_eq_true rfl⟩
theorem iv_X7_isRuleTold : Cond.instanceMethod yX7_isRuleTold ∈ tr_tbl ∧ Cond.selects (yX7_isRuleTold).cls yX7_isRuleTold yX7_isRuleTold ∈ tr_tbl := ⟨tr_in 1397 (by decide +kernel) rfl, tr_in 71 (by decide +kernel) rfl⟩
def mX7_isRuleTold (p1 : Int32) (p2 : Int32) (p3 : Int32) (p4 : Int32) (M : tr_M) : Option (Int32) :=
  if p1 = (0 : Int32) then (
    some (1 : Int32)
  ) else (
  if p1 = (1 : Int32) then (
    Option.bind (mX7_isThing p2 M) (fun c2 =>
    if c2 = 0 then (
      some (0 : Int32)
    ) else (
      Option.bind (mX7_isThing p3 M) (fun c4 =>
      if c4 = 0 then (
        some (0 : Int32)
      ) else (
        if p2 = p3 then (
          some (0 : Int32)
        ) else (
          some (1 : Int32)
        )
      )
      )
    )
    )
  ) else (
  if p1 = (2 : Int32) then (
    Option.bind (mX7_isThing p2 M) (fun c7 =>
    if c7 = 0 then (
      some (0 : Int32)
    ) else (
      Option.bind (mX7_isThing p3 M) (fun c9 =>
      if c9 = 0 then (
        some (0 : Int32)
      ) else (
        if p2 = p3 then (
          some (0 : Int32)
        ) else (
          some (1 : Int32)
        )
      )
      )
    )
    )
  ) else (
  if p1 = (3 : Int32) then (
    Option.bind (mX7_isThing p2 M) (fun c12 =>
    if c12 = 0 then (
      some (0 : Int32)
    ) else (
      if (mX7_in p3 (0 : Int32) (9 : Int32)) = 0 then (
        some (0 : Int32)
      ) else (
        some (1 : Int32)
      )
    )
    )
  ) else (
  if p1 = (4 : Int32) then (
    Option.bind (mX7_isThing p2 M) (fun c17 =>
    if c17 = 0 then (
      some (0 : Int32)
    ) else (
      if (mX7_in p3 (0 : Int32) (9 : Int32)) = 0 then (
        some (0 : Int32)
      ) else (
        some (1 : Int32)
      )
    )
    )
  ) else (
  if p1 = (5 : Int32) then (
    Option.bind (mX7_isThing p2 M) (fun c22 =>
    if c22 = 0 then (
      some (0 : Int32)
    ) else (
      Option.bind (mX7_isThing p3 M) (fun c24 =>
      if c24 = 0 then (
        some (0 : Int32)
      ) else (
        if p2 = p3 then (
          some (0 : Int32)
        ) else (
          some (1 : Int32)
        )
      )
      )
    )
    )
  ) else (
  if p1 = (6 : Int32) then (
    Option.bind (mX7_isThing p2 M) (fun c27 =>
    if c27 = 0 then (
      some (0 : Int32)
    ) else (
      Option.bind (mX7_isThing p3 M) (fun c29 =>
      if c29 = 0 then (
        some (0 : Int32)
      ) else (
        Option.bind (mX7_isThing p4 M) (fun c31 =>
        if c31 = 0 then (
          some (0 : Int32)
        ) else (
          if p2 = p3 then (
            some (0 : Int32)
          ) else (
            if p2 = p4 then (
              some (0 : Int32)
            ) else (
              if p3 = p4 then (
                some (0 : Int32)
              ) else (
                some (1 : Int32)
              )
            )
          )
        )
        )
      )
      )
    )
    )
  ) else (
    some (0 : Int32)
  )))))))
set_option maxRecDepth 100000 in
set_option maxHeartbeats 4000000 in
theorem C_X7_isRuleTold (p1 : Int32) (p2 : Int32) (p3 : Int32) (p4 : Int32) (M : tr_M) (r : Int32) (h : mX7_isRuleTold p1 p2 p3 p4 M = some r) : tr_I yX7_isRuleTold (xX7_isRuleTold) [.ref 1, .int p1, .int p2, .int p3, .int p4] M (some (.int r)) M := by
  refine tr_I.of (Z := fun q : Int32 => (some (.int r) : Option Value) = some (.int q) ∧ M = M) pn_X7 rfl gdM (Nat.le_of_ble_eq_true rfl) (fun Wt => ?_) h ⟨rfl, rfl⟩
  unfold mX7_isRuleTold
  refine tr_V.iload_n (i := 1) dX7_isRuleTold_0 rfl rfl ?_
  refine tr_V.case (k := (0 : Int32)) (fun c1 => ?_) (fun c1 => ?_)
  · refine tr_V.tableIn (tgt := 44) dX7_isRuleTold_1 c1 (by decide) rfl (by decide) ?_
    refine tr_V.iconst (v := (1 : Int32)) dX7_isRuleTold_44 (by decide) ?_
    exact tr_V.zret (by decide) dX7_isRuleTold_45 rfl (fun h => h)
  · refine tr_V.case (k := (1 : Int32)) (fun c6 => ?_) (fun c6 => ?_)
    · refine tr_V.tableIn (tgt := 46) dX7_isRuleTold_1 c6 (by decide) rfl (by decide) ?_
      refine tr_V.aload_n (i := 0) dX7_isRuleTold_46 rfl rfl ?_
      refine tr_V.iload_n (i := 2) dX7_isRuleTold_47 rfl rfl ?_
      refine tr_V.bd (fun c2 h3 => ?_)
      refine tr_V.callV (C_X7_isThing p2 M _ h3) yk_X7_isThing iv_X7_isThing ml_X7_163 shM_1 rfl ⟨rfl, Nat.le_of_ble_eq_true rfl⟩ rfl (Nat.le_of_ble_eq_true rfl) rfl dX7_isRuleTold_48 ?_
      refine tr_V.if_eq (tgt := 71) dX7_isRuleTold_51 (by decide) ?_ ?_
      · refine tr_V.iconst (v := (0 : Int32)) dX7_isRuleTold_71 (by decide) ?_
        exact tr_V.zret (by decide) dX7_isRuleTold_72 rfl (fun h => h)
      · refine tr_V.aload_n (i := 0) dX7_isRuleTold_54 rfl rfl ?_
        refine tr_V.iload_n (i := 3) dX7_isRuleTold_55 rfl rfl ?_
        refine tr_V.bd (fun c4 h5 => ?_)
        refine tr_V.callV (C_X7_isThing p3 M _ h5) yk_X7_isThing iv_X7_isThing ml_X7_163 shM_1 rfl ⟨rfl, Nat.le_of_ble_eq_true rfl⟩ rfl (Nat.le_of_ble_eq_true rfl) rfl dX7_isRuleTold_56 ?_
        refine tr_V.if_eq (tgt := 71) dX7_isRuleTold_59 (by decide) ?_ ?_
        · refine tr_V.iconst (v := (0 : Int32)) dX7_isRuleTold_71 (by decide) ?_
          exact tr_V.zret (by decide) dX7_isRuleTold_72 rfl (fun h => h)
        · refine tr_V.iload_n (i := 2) dX7_isRuleTold_62 rfl rfl ?_
          refine tr_V.iload_n (i := 3) dX7_isRuleTold_63 rfl rfl ?_
          refine tr_V.icmp_eq (tgt := 71) dX7_isRuleTold_64 (by decide) ?_ ?_
          · refine tr_V.iconst (v := (0 : Int32)) dX7_isRuleTold_71 (by decide) ?_
            exact tr_V.zret (by decide) dX7_isRuleTold_72 rfl (fun h => h)
          · refine tr_V.iconst (v := (1 : Int32)) dX7_isRuleTold_67 (by decide) ?_
            refine tr_V.goto (tgt := 72) dX7_isRuleTold_68 (by decide) ?_
            exact tr_V.zret (by decide) dX7_isRuleTold_72 rfl (fun h => h)
    · refine tr_V.case (k := (2 : Int32)) (fun c11 => ?_) (fun c11 => ?_)
      · refine tr_V.tableIn (tgt := 73) dX7_isRuleTold_1 c11 (by decide) rfl (by decide) ?_
        refine tr_V.aload_n (i := 0) dX7_isRuleTold_73 rfl rfl ?_
        refine tr_V.iload_n (i := 2) dX7_isRuleTold_74 rfl rfl ?_
        refine tr_V.bd (fun c7 h8 => ?_)
        refine tr_V.callV (C_X7_isThing p2 M _ h8) yk_X7_isThing iv_X7_isThing ml_X7_163 shM_1 rfl ⟨rfl, Nat.le_of_ble_eq_true rfl⟩ rfl (Nat.le_of_ble_eq_true rfl) rfl dX7_isRuleTold_75 ?_
        refine tr_V.if_eq (tgt := 98) dX7_isRuleTold_78 (by decide) ?_ ?_
        · refine tr_V.iconst (v := (0 : Int32)) dX7_isRuleTold_98 (by decide) ?_
          exact tr_V.zret (by decide) dX7_isRuleTold_99 rfl (fun h => h)
        · refine tr_V.aload_n (i := 0) dX7_isRuleTold_81 rfl rfl ?_
          refine tr_V.iload_n (i := 3) dX7_isRuleTold_82 rfl rfl ?_
          refine tr_V.bd (fun c9 h10 => ?_)
          refine tr_V.callV (C_X7_isThing p3 M _ h10) yk_X7_isThing iv_X7_isThing ml_X7_163 shM_1 rfl ⟨rfl, Nat.le_of_ble_eq_true rfl⟩ rfl (Nat.le_of_ble_eq_true rfl) rfl dX7_isRuleTold_83 ?_
          refine tr_V.if_eq (tgt := 98) dX7_isRuleTold_86 (by decide) ?_ ?_
          · refine tr_V.iconst (v := (0 : Int32)) dX7_isRuleTold_98 (by decide) ?_
            exact tr_V.zret (by decide) dX7_isRuleTold_99 rfl (fun h => h)
          · refine tr_V.iload_n (i := 2) dX7_isRuleTold_89 rfl rfl ?_
            refine tr_V.iload_n (i := 3) dX7_isRuleTold_90 rfl rfl ?_
            refine tr_V.icmp_eq (tgt := 98) dX7_isRuleTold_91 (by decide) ?_ ?_
            · refine tr_V.iconst (v := (0 : Int32)) dX7_isRuleTold_98 (by decide) ?_
              exact tr_V.zret (by decide) dX7_isRuleTold_99 rfl (fun h => h)
            · refine tr_V.iconst (v := (1 : Int32)) dX7_isRuleTold_94 (by decide) ?_
              refine tr_V.goto (tgt := 99) dX7_isRuleTold_95 (by decide) ?_
              exact tr_V.zret (by decide) dX7_isRuleTold_99 rfl (fun h => h)
      · refine tr_V.case (k := (3 : Int32)) (fun c16 => ?_) (fun c16 => ?_)
        · refine tr_V.tableIn (tgt := 100) dX7_isRuleTold_1 c16 (by decide) rfl (by decide) ?_
          refine tr_V.aload_n (i := 0) dX7_isRuleTold_100 rfl rfl ?_
          refine tr_V.iload_n (i := 2) dX7_isRuleTold_101 rfl rfl ?_
          refine tr_V.bd (fun c12 h13 => ?_)
          refine tr_V.callV (C_X7_isThing p2 M _ h13) yk_X7_isThing iv_X7_isThing ml_X7_163 shM_1 rfl ⟨rfl, Nat.le_of_ble_eq_true rfl⟩ rfl (Nat.le_of_ble_eq_true rfl) rfl dX7_isRuleTold_102 ?_
          refine tr_V.if_eq (tgt := 122) dX7_isRuleTold_105 (by decide) ?_ ?_
          · refine tr_V.iconst (v := (0 : Int32)) dX7_isRuleTold_122 (by decide) ?_
            exact tr_V.zret (by decide) dX7_isRuleTold_123 rfl (fun h => h)
          · refine tr_V.iload_n (i := 3) dX7_isRuleTold_108 rfl rfl ?_
            refine tr_V.iconst (v := (0 : Int32)) dX7_isRuleTold_109 (by decide) ?_
            refine tr_V.bipush (v := (9 : Int32)) dX7_isRuleTold_110 (by decide) ?_
            refine tr_V.callS (C_X7_in p3 (0 : Int32) (9 : Int32) M) yk_X7_in sc_X7_in ml_X7_92 ⟨rfl, Nat.le_of_ble_eq_true rfl⟩ rfl (Nat.le_of_ble_eq_true rfl) rfl dX7_isRuleTold_112 ?_
            refine tr_V.if_eq (tgt := 122) dX7_isRuleTold_115 (by decide) ?_ ?_
            · refine tr_V.iconst (v := (0 : Int32)) dX7_isRuleTold_122 (by decide) ?_
              exact tr_V.zret (by decide) dX7_isRuleTold_123 rfl (fun h => h)
            · refine tr_V.iconst (v := (1 : Int32)) dX7_isRuleTold_118 (by decide) ?_
              refine tr_V.goto (tgt := 123) dX7_isRuleTold_119 (by decide) ?_
              exact tr_V.zret (by decide) dX7_isRuleTold_123 rfl (fun h => h)
        · refine tr_V.case (k := (4 : Int32)) (fun c21 => ?_) (fun c21 => ?_)
          · refine tr_V.tableIn (tgt := 124) dX7_isRuleTold_1 c21 (by decide) rfl (by decide) ?_
            refine tr_V.aload_n (i := 0) dX7_isRuleTold_124 rfl rfl ?_
            refine tr_V.iload_n (i := 2) dX7_isRuleTold_125 rfl rfl ?_
            refine tr_V.bd (fun c17 h18 => ?_)
            refine tr_V.callV (C_X7_isThing p2 M _ h18) yk_X7_isThing iv_X7_isThing ml_X7_163 shM_1 rfl ⟨rfl, Nat.le_of_ble_eq_true rfl⟩ rfl (Nat.le_of_ble_eq_true rfl) rfl dX7_isRuleTold_126 ?_
            refine tr_V.if_eq (tgt := 146) dX7_isRuleTold_129 (by decide) ?_ ?_
            · refine tr_V.iconst (v := (0 : Int32)) dX7_isRuleTold_146 (by decide) ?_
              exact tr_V.zret (by decide) dX7_isRuleTold_147 rfl (fun h => h)
            · refine tr_V.iload_n (i := 3) dX7_isRuleTold_132 rfl rfl ?_
              refine tr_V.iconst (v := (0 : Int32)) dX7_isRuleTold_133 (by decide) ?_
              refine tr_V.bipush (v := (9 : Int32)) dX7_isRuleTold_134 (by decide) ?_
              refine tr_V.callS (C_X7_in p3 (0 : Int32) (9 : Int32) M) yk_X7_in sc_X7_in ml_X7_92 ⟨rfl, Nat.le_of_ble_eq_true rfl⟩ rfl (Nat.le_of_ble_eq_true rfl) rfl dX7_isRuleTold_136 ?_
              refine tr_V.if_eq (tgt := 146) dX7_isRuleTold_139 (by decide) ?_ ?_
              · refine tr_V.iconst (v := (0 : Int32)) dX7_isRuleTold_146 (by decide) ?_
                exact tr_V.zret (by decide) dX7_isRuleTold_147 rfl (fun h => h)
              · refine tr_V.iconst (v := (1 : Int32)) dX7_isRuleTold_142 (by decide) ?_
                refine tr_V.goto (tgt := 147) dX7_isRuleTold_143 (by decide) ?_
                exact tr_V.zret (by decide) dX7_isRuleTold_147 rfl (fun h => h)
          · refine tr_V.case (k := (5 : Int32)) (fun c26 => ?_) (fun c26 => ?_)
            · refine tr_V.tableIn (tgt := 148) dX7_isRuleTold_1 c26 (by decide) rfl (by decide) ?_
              refine tr_V.aload_n (i := 0) dX7_isRuleTold_148 rfl rfl ?_
              refine tr_V.iload_n (i := 2) dX7_isRuleTold_149 rfl rfl ?_
              refine tr_V.bd (fun c22 h23 => ?_)
              refine tr_V.callV (C_X7_isThing p2 M _ h23) yk_X7_isThing iv_X7_isThing ml_X7_163 shM_1 rfl ⟨rfl, Nat.le_of_ble_eq_true rfl⟩ rfl (Nat.le_of_ble_eq_true rfl) rfl dX7_isRuleTold_150 ?_
              refine tr_V.if_eq (tgt := 173) dX7_isRuleTold_153 (by decide) ?_ ?_
              · refine tr_V.iconst (v := (0 : Int32)) dX7_isRuleTold_173 (by decide) ?_
                exact tr_V.zret (by decide) dX7_isRuleTold_174 rfl (fun h => h)
              · refine tr_V.aload_n (i := 0) dX7_isRuleTold_156 rfl rfl ?_
                refine tr_V.iload_n (i := 3) dX7_isRuleTold_157 rfl rfl ?_
                refine tr_V.bd (fun c24 h25 => ?_)
                refine tr_V.callV (C_X7_isThing p3 M _ h25) yk_X7_isThing iv_X7_isThing ml_X7_163 shM_1 rfl ⟨rfl, Nat.le_of_ble_eq_true rfl⟩ rfl (Nat.le_of_ble_eq_true rfl) rfl dX7_isRuleTold_158 ?_
                refine tr_V.if_eq (tgt := 173) dX7_isRuleTold_161 (by decide) ?_ ?_
                · refine tr_V.iconst (v := (0 : Int32)) dX7_isRuleTold_173 (by decide) ?_
                  exact tr_V.zret (by decide) dX7_isRuleTold_174 rfl (fun h => h)
                · refine tr_V.iload_n (i := 2) dX7_isRuleTold_164 rfl rfl ?_
                  refine tr_V.iload_n (i := 3) dX7_isRuleTold_165 rfl rfl ?_
                  refine tr_V.icmp_eq (tgt := 173) dX7_isRuleTold_166 (by decide) ?_ ?_
                  · refine tr_V.iconst (v := (0 : Int32)) dX7_isRuleTold_173 (by decide) ?_
                    exact tr_V.zret (by decide) dX7_isRuleTold_174 rfl (fun h => h)
                  · refine tr_V.iconst (v := (1 : Int32)) dX7_isRuleTold_169 (by decide) ?_
                    refine tr_V.goto (tgt := 174) dX7_isRuleTold_170 (by decide) ?_
                    exact tr_V.zret (by decide) dX7_isRuleTold_174 rfl (fun h => h)
            · refine tr_V.case (k := (6 : Int32)) (fun c33 => ?_) (fun c33 => ?_)
              · refine tr_V.tableIn (tgt := 175) dX7_isRuleTold_1 c33 (by decide) rfl (by decide) ?_
                refine tr_V.aload_n (i := 0) dX7_isRuleTold_175 rfl rfl ?_
                refine tr_V.iload_n (i := 2) dX7_isRuleTold_176 rfl rfl ?_
                refine tr_V.bd (fun c27 h28 => ?_)
                refine tr_V.callV (C_X7_isThing p2 M _ h28) yk_X7_isThing iv_X7_isThing ml_X7_163 shM_1 rfl ⟨rfl, Nat.le_of_ble_eq_true rfl⟩ rfl (Nat.le_of_ble_eq_true rfl) rfl dX7_isRuleTold_177 ?_
                refine tr_V.if_eq (tgt := 221) dX7_isRuleTold_180 (by decide) ?_ ?_
                · refine tr_V.iconst (v := (0 : Int32)) dX7_isRuleTold_221 (by decide) ?_
                  exact tr_V.zret (by decide) dX7_isRuleTold_222 rfl (fun h => h)
                · refine tr_V.aload_n (i := 0) dX7_isRuleTold_183 rfl rfl ?_
                  refine tr_V.iload_n (i := 3) dX7_isRuleTold_184 rfl rfl ?_
                  refine tr_V.bd (fun c29 h30 => ?_)
                  refine tr_V.callV (C_X7_isThing p3 M _ h30) yk_X7_isThing iv_X7_isThing ml_X7_163 shM_1 rfl ⟨rfl, Nat.le_of_ble_eq_true rfl⟩ rfl (Nat.le_of_ble_eq_true rfl) rfl dX7_isRuleTold_185 ?_
                  refine tr_V.if_eq (tgt := 221) dX7_isRuleTold_188 (by decide) ?_ ?_
                  · refine tr_V.iconst (v := (0 : Int32)) dX7_isRuleTold_221 (by decide) ?_
                    exact tr_V.zret (by decide) dX7_isRuleTold_222 rfl (fun h => h)
                  · refine tr_V.aload_n (i := 0) dX7_isRuleTold_191 rfl rfl ?_
                    refine tr_V.iload dX7_isRuleTold_192 rfl ?_
                    refine tr_V.bd (fun c31 h32 => ?_)
                    refine tr_V.callV (C_X7_isThing p4 M _ h32) yk_X7_isThing iv_X7_isThing ml_X7_163 shM_1 rfl ⟨rfl, Nat.le_of_ble_eq_true rfl⟩ rfl (Nat.le_of_ble_eq_true rfl) rfl dX7_isRuleTold_194 ?_
                    refine tr_V.if_eq (tgt := 221) dX7_isRuleTold_197 (by decide) ?_ ?_
                    · refine tr_V.iconst (v := (0 : Int32)) dX7_isRuleTold_221 (by decide) ?_
                      exact tr_V.zret (by decide) dX7_isRuleTold_222 rfl (fun h => h)
                    · refine tr_V.iload_n (i := 2) dX7_isRuleTold_200 rfl rfl ?_
                      refine tr_V.iload_n (i := 3) dX7_isRuleTold_201 rfl rfl ?_
                      refine tr_V.icmp_eq (tgt := 221) dX7_isRuleTold_202 (by decide) ?_ ?_
                      · refine tr_V.iconst (v := (0 : Int32)) dX7_isRuleTold_221 (by decide) ?_
                        exact tr_V.zret (by decide) dX7_isRuleTold_222 rfl (fun h => h)
                      · refine tr_V.iload_n (i := 2) dX7_isRuleTold_205 rfl rfl ?_
                        refine tr_V.iload dX7_isRuleTold_206 rfl ?_
                        refine tr_V.icmp_eq (tgt := 221) dX7_isRuleTold_208 (by decide) ?_ ?_
                        · refine tr_V.iconst (v := (0 : Int32)) dX7_isRuleTold_221 (by decide) ?_
                          exact tr_V.zret (by decide) dX7_isRuleTold_222 rfl (fun h => h)
                        · refine tr_V.iload_n (i := 3) dX7_isRuleTold_211 rfl rfl ?_
                          refine tr_V.iload dX7_isRuleTold_212 rfl ?_
                          refine tr_V.icmp_eq (tgt := 221) dX7_isRuleTold_214 (by decide) ?_ ?_
                          · refine tr_V.iconst (v := (0 : Int32)) dX7_isRuleTold_221 (by decide) ?_
                            exact tr_V.zret (by decide) dX7_isRuleTold_222 rfl (fun h => h)
                          · refine tr_V.iconst (v := (1 : Int32)) dX7_isRuleTold_217 (by decide) ?_
                            refine tr_V.goto (tgt := 222) dX7_isRuleTold_218 (by decide) ?_
                            exact tr_V.zret (by decide) dX7_isRuleTold_222 rfl (fun h => h)
              · refine tr_V.tableOut (tgt := 223) dX7_isRuleTold_1 (by have := lv_neT c1 (a := 0) (by decide); have := lv_neT c6 (a := 1) (by decide); have := lv_neT c11 (a := 2) (by decide); have := lv_neT c16 (a := 3) (by decide); have := lv_neT c21 (a := 4) (by decide); have := lv_neT c26 (a := 5) (by decide); have := lv_neT c33 (a := 6) (by decide); omega) (by decide) ?_
                refine tr_V.iconst (v := (0 : Int32)) dX7_isRuleTold_223 (by decide) ?_
                exact tr_V.zret (by decide) dX7_isRuleTold_224 rfl (fun h => h)
abbrev xX7_rule : tr_X := (cX7_rule, 6, RX7, (some .int), 4, shM, 24)
theorem cw_X7_rule : Cond.code yX7_rule cX7_rule 6 (some .int) ∈ tr_tbl := tr_in 1394 (by decide +kernel) rfl
theorem yk_X7_rule : tr_yk yX7_rule (xX7_rule) 4 := ⟨cw_X7_rule, in_X7, ⟨by decide +kernel, by decide +kernel, by decide +kernel⟩, Nat.le_of_ble_eq_true rfl⟩
theorem iv_X7_rule : Cond.instanceMethod yX7_rule ∈ tr_tbl ∧ Cond.selects (yX7_rule).cls yX7_rule yX7_rule ∈ tr_tbl := ⟨tr_in 1392 (by decide +kernel) rfl, tr_in 1393 (by decide +kernel) rfl⟩
def mX7_rule (p1 : Int32) (p2 : Int32) (p3 : Int32) (p4 : Int32) (M : tr_M) : Option (Int32 × tr_M) :=
  Option.bind (mX7_isRuleTold p1 p2 p3 p4 M) (fun c1 =>
  if c1 = 0 then (
    some ((-1 : Int32), M)
  ) else (
    if (M.1 1 12) = (8 : Int32) then (
      some ((-2 : Int32), M)
    ) else (
      Option.bind (tr_wr 40 M 9 ((5 : Int32) * (M.1 1 12)) p1) (fun M3 =>
      Option.bind (show Option (Int32) from
        if p1 = 0 then (
          some (0 : Int32)
        ) else (
          some p2
        )
      ) (fun (v5 : Int32) =>
        Option.bind (tr_wr 40 M3 9 (((5 : Int32) * (M.1 1 12)) + (1 : Int32)) v5) (fun M6 =>
        Option.bind (show Option (Int32) from
          if p1 = 0 then (
            some (0 : Int32)
          ) else (
            some p3
          )
        ) (fun (v8 : Int32) =>
          Option.bind (tr_wr 40 M6 9 (((5 : Int32) * (M.1 1 12)) + (2 : Int32)) v8) (fun M9 =>
          Option.bind (show Option (Int32) from
            if p1 = (6 : Int32) then (
              some p4
            ) else (
              some (0 : Int32)
            )
          ) (fun (v11 : Int32) =>
            Option.bind (tr_wr 40 M9 9 (((5 : Int32) * (M.1 1 12)) + (3 : Int32)) v11) (fun M12 =>
            Option.bind (tr_wr 40 M12 9 (((5 : Int32) * (M.1 1 12)) + (4 : Int32)) (0 : Int32)) (fun M14 =>
            Option.bind (some (tr_st M14 1 12 ((M14.1 1 12) + (1 : Int32)))) (fun M16 =>
            some (((M16.1 1 12) - (1 : Int32)), M16)
            )
            )
            )
          )
          )
        )
        )
      )
      )
    )
  )
  )
set_option maxRecDepth 100000 in
set_option maxHeartbeats 4000000 in
theorem C_X7_rule (p1 : Int32) (p2 : Int32) (p3 : Int32) (p4 : Int32) (M : tr_M) (r : Int32 × tr_M) (h : mX7_rule p1 p2 p3 p4 M = some r) : tr_I yX7_rule (xX7_rule) [.ref 1, .int p1, .int p2, .int p3, .int p4] M (some (.int r.1)) r.2 := by
  refine tr_I.of (Z := fun q : Int32 × tr_M => (some (.int r.1) : Option Value) = some (.int q.1) ∧ r.2 = q.2) pn_X7 rfl gdM (Nat.le_of_ble_eq_true rfl) (fun Wt => ?_) h ⟨rfl, rfl⟩
  unfold mX7_rule
  refine tr_V.aload_n (i := 0) dX7_rule_0 rfl rfl ?_
  refine tr_V.iload_n (i := 1) dX7_rule_1 rfl rfl ?_
  refine tr_V.iload_n (i := 2) dX7_rule_2 rfl rfl ?_
  refine tr_V.iload_n (i := 3) dX7_rule_3 rfl rfl ?_
  refine tr_V.iload dX7_rule_4 rfl ?_
  refine tr_V.bd (fun c1 h2 => ?_)
  refine tr_V.callV (C_X7_isRuleTold p1 p2 p3 p4 M _ h2) yk_X7_isRuleTold iv_X7_isRuleTold ml_X7_173 shM_1 rfl ⟨rfl, Nat.le_of_ble_eq_true rfl⟩ rfl (Nat.le_of_ble_eq_true rfl) rfl dX7_rule_6 ?_
  refine tr_V.if_ne (tgt := 14) dX7_rule_9 (by decide) ?_ ?_
  · refine tr_V.iconst (v := (-1 : Int32)) dX7_rule_12 (by decide) ?_
    exact tr_V.iret dX7_rule_13 rfl (fun h => h)
  · refine tr_V.aload_n (i := 0) dX7_rule_14 rfl rfl ?_
    refine tr_V.getI fl_X7_160 shM_1 rfl dX7_rule_15 ?_
    refine tr_V.bipush (v := (8 : Int32)) dX7_rule_18 (by decide) ?_
    refine tr_V.icmp_ne (tgt := 26) dX7_rule_20 (by decide) ?_ ?_
    · refine tr_V.bipush (v := (-2 : Int32)) dX7_rule_23 (by decide) ?_
      exact tr_V.iret dX7_rule_25 rfl (fun h => h)
    · refine tr_V.iconst (v := (5 : Int32)) dX7_rule_26 (by decide) ?_
      refine tr_V.aload_n (i := 0) dX7_rule_27 rfl rfl ?_
      refine tr_V.getI fl_X7_160 shM_1 rfl dX7_rule_28 ?_
      refine tr_V.imul dX7_rule_31 ?_
      refine tr_V.istore (i := 5) dX7_rule_32 (Nat.le_of_ble_eq_true rfl) rfl ?_
      refine tr_V.aload_n (i := 0) dX7_rule_34 rfl rfl ?_
      refine tr_V.getR (Nat.succ_pos _) fl_X7_32 shM_1 rfl dX7_rule_35 ?_
      refine tr_V.iload dX7_rule_38 rfl ?_
      refine tr_V.iload_n (i := 1) dX7_rule_40 rfl rfl ?_
      refine tr_V.bd (fun M3 h4 => ?_)
      refine tr_V.iast h4 shM_9 dX7_rule_41 ?_
      refine tr_V.aload_n (i := 0) dX7_rule_42 rfl rfl ?_
      refine tr_V.getR (Nat.succ_pos _) fl_X7_32 shM_1 rfl dX7_rule_43 ?_
      refine tr_V.iload dX7_rule_46 rfl ?_
      refine tr_V.iconst (v := (1 : Int32)) dX7_rule_48 (by decide) ?_
      refine tr_V.iadd dX7_rule_49 ?_
      refine tr_V.iload_n (i := 1) dX7_rule_50 rfl rfl ?_
      refine tr_V.seq (τ := Int32) (pc' := 59) (L := fun v5 => [(0, some (.ref 1)), (1, some (.int p1)), (3, some (.int p3)), (4, some (.int p4)), (5, some (.int ((5 : Int32) * (M.1 1 12))))]) (S := fun v5 => [.int v5, .int (((5 : Int32) * (M.1 1 12)) + (1 : Int32)), .ref 9]) (Mf := fun v5 => M3) ?_ ?_
      · refine tr_V.if_ne (tgt := 58) dX7_rule_51 (by decide) ?_ ?_
        · refine tr_V.iconst (v := (0 : Int32)) dX7_rule_54 (by decide) ?_
          refine tr_V.goto (tgt := 59) dX7_rule_55 (by decide) ?_
          exact tr_V.to (fun h => h) ⟨rfl, rfl, rfl, rfl, rfl, trivial⟩
        · refine tr_V.iload_n (i := 2) dX7_rule_58 rfl rfl ?_
          exact tr_V.to (fun h => h) ⟨rfl, rfl, rfl, rfl, rfl, trivial⟩
      · intro v5
        refine tr_V.bd (fun M6 h7 => ?_)
        refine tr_V.iast h7 shM_9 dX7_rule_59 ?_
        refine tr_V.aload_n (i := 0) dX7_rule_60 rfl rfl ?_
        refine tr_V.getR (Nat.succ_pos _) fl_X7_32 shM_1 rfl dX7_rule_61 ?_
        refine tr_V.iload dX7_rule_64 rfl ?_
        refine tr_V.iconst (v := (2 : Int32)) dX7_rule_66 (by decide) ?_
        refine tr_V.iadd dX7_rule_67 ?_
        refine tr_V.iload_n (i := 1) dX7_rule_68 rfl rfl ?_
        refine tr_V.seq (τ := Int32) (pc' := 77) (L := fun v8 => [(0, some (.ref 1)), (1, some (.int p1)), (4, some (.int p4)), (5, some (.int ((5 : Int32) * (M.1 1 12))))]) (S := fun v8 => [.int v8, .int (((5 : Int32) * (M.1 1 12)) + (2 : Int32)), .ref 9]) (Mf := fun v8 => M6) ?_ ?_
        · refine tr_V.if_ne (tgt := 76) dX7_rule_69 (by decide) ?_ ?_
          · refine tr_V.iconst (v := (0 : Int32)) dX7_rule_72 (by decide) ?_
            refine tr_V.goto (tgt := 77) dX7_rule_73 (by decide) ?_
            exact tr_V.to (fun h => h) ⟨rfl, rfl, rfl, rfl, trivial⟩
          · refine tr_V.iload_n (i := 3) dX7_rule_76 rfl rfl ?_
            exact tr_V.to (fun h => h) ⟨rfl, rfl, rfl, rfl, trivial⟩
        · intro v8
          refine tr_V.bd (fun M9 h10 => ?_)
          refine tr_V.iast h10 shM_9 dX7_rule_77 ?_
          refine tr_V.aload_n (i := 0) dX7_rule_78 rfl rfl ?_
          refine tr_V.getR (Nat.succ_pos _) fl_X7_32 shM_1 rfl dX7_rule_79 ?_
          refine tr_V.iload dX7_rule_82 rfl ?_
          refine tr_V.iconst (v := (3 : Int32)) dX7_rule_84 (by decide) ?_
          refine tr_V.iadd dX7_rule_85 ?_
          refine tr_V.iload_n (i := 1) dX7_rule_86 rfl rfl ?_
          refine tr_V.bipush (v := (6 : Int32)) dX7_rule_87 (by decide) ?_
          refine tr_V.seq (τ := Int32) (pc' := 98) (L := fun v11 => [(0, some (.ref 1)), (5, some (.int ((5 : Int32) * (M.1 1 12))))]) (S := fun v11 => [.int v11, .int (((5 : Int32) * (M.1 1 12)) + (3 : Int32)), .ref 9]) (Mf := fun v11 => M9) ?_ ?_
          · refine tr_V.icmp_ne (tgt := 97) dX7_rule_89 (by decide) ?_ ?_
            · refine tr_V.iload dX7_rule_92 rfl ?_
              refine tr_V.goto (tgt := 98) dX7_rule_94 (by decide) ?_
              exact tr_V.to (fun h => h) ⟨rfl, rfl, trivial⟩
            · refine tr_V.iconst (v := (0 : Int32)) dX7_rule_97 (by decide) ?_
              exact tr_V.to (fun h => h) ⟨rfl, rfl, trivial⟩
          · intro v11
            refine tr_V.bd (fun M12 h13 => ?_)
            refine tr_V.iast h13 shM_9 dX7_rule_98 ?_
            refine tr_V.aload_n (i := 0) dX7_rule_99 rfl rfl ?_
            refine tr_V.getR (Nat.succ_pos _) fl_X7_32 shM_1 rfl dX7_rule_100 ?_
            refine tr_V.iload dX7_rule_103 rfl ?_
            refine tr_V.iconst (v := (4 : Int32)) dX7_rule_105 (by decide) ?_
            refine tr_V.iadd dX7_rule_106 ?_
            refine tr_V.iconst (v := (0 : Int32)) dX7_rule_107 (by decide) ?_
            refine tr_V.bd (fun M14 h15 => ?_)
            refine tr_V.iast h15 shM_9 dX7_rule_108 ?_
            refine tr_V.aload_n (i := 0) dX7_rule_109 rfl rfl ?_
            refine tr_V.dup rfl dX7_rule_110 ?_
            refine tr_V.getI fl_X7_160 shM_1 rfl dX7_rule_111 ?_
            refine tr_V.iconst (v := (1 : Int32)) dX7_rule_114 (by decide) ?_
            refine tr_V.iadd dX7_rule_115 ?_
            refine tr_V.bd (fun M16 h17 => ?_)
            refine tr_V.putI fl_X7_160 shM_1 rfl dX7_rule_116 h17 ?_
            refine tr_V.aload_n (i := 0) dX7_rule_119 rfl rfl ?_
            refine tr_V.getI fl_X7_160 shM_1 rfl dX7_rule_120 ?_
            refine tr_V.iconst (v := (1 : Int32)) dX7_rule_123 (by decide) ?_
            refine tr_V.isub dX7_rule_124 ?_
            exact tr_V.iret dX7_rule_125 rfl (fun h => h)
abbrev xX7_isRule : tr_X := (cX7_isRule, 2, RX7, (some .boolean), 2, shM, 24)
theorem cw_X7_isRule : Cond.code yX7_isRule cX7_isRule 2 (some .boolean) ∈ tr_tbl := tr_in 1406 (by decide +kernel) rfl
theorem yk_X7_isRule : tr_yk yX7_isRule (xX7_isRule) 1 := ⟨cw_X7_isRule, in_X7, ⟨by decide +kernel, by decide +kernel, by decide +kernel⟩, Nat.le_of_ble_eq_true rfl⟩
theorem iv_X7_isRule : Cond.instanceMethod yX7_isRule ∈ tr_tbl ∧ Cond.selects (yX7_isRule).cls yX7_isRule yX7_isRule ∈ tr_tbl := ⟨tr_in 1405 (by decide +kernel) rfl, tr_in 72 (by decide +kernel) rfl⟩
def mX7_isRule (p1 : Int32) (M : tr_M) : Option (Int32) :=
  Option.bind (tr_gd ((mX7_in p1 (0 : Int32) ((M.1 1 12) - (1 : Int32))) &&& 1 == (mX7_in p1 (0 : Int32) ((M.1 1 12) - (1 : Int32))))) (fun _ => some (mX7_in p1 (0 : Int32) ((M.1 1 12) - (1 : Int32))))
set_option maxRecDepth 100000 in
set_option maxHeartbeats 4000000 in
theorem C_X7_isRule (p1 : Int32) (M : tr_M) (r : Int32) (h : mX7_isRule p1 M = some r) : tr_I yX7_isRule (xX7_isRule) [.ref 1, .int p1] M (some (.int r)) M := by
  refine tr_I.of (Z := fun q : Int32 => (some (.int r) : Option Value) = some (.int q) ∧ M = M) pn_X7 rfl gdM (Nat.le_of_ble_eq_true rfl) (fun Wt => ?_) h ⟨rfl, rfl⟩
  unfold mX7_isRule
  refine tr_V.iload_n (i := 1) dX7_isRule_0 rfl rfl ?_
  refine tr_V.iconst (v := (0 : Int32)) dX7_isRule_1 (by decide) ?_
  refine tr_V.aload_n (i := 0) dX7_isRule_2 rfl rfl ?_
  refine tr_V.getI fl_X7_160 shM_1 rfl dX7_isRule_3 ?_
  refine tr_V.iconst (v := (1 : Int32)) dX7_isRule_6 (by decide) ?_
  refine tr_V.isub dX7_isRule_7 ?_
  refine tr_V.callS (C_X7_in p1 (0 : Int32) ((M.1 1 12) - (1 : Int32)) M) yk_X7_in sc_X7_in ml_X7_92 ⟨rfl, Nat.le_of_ble_eq_true rfl⟩ rfl (Nat.le_of_ble_eq_true rfl) rfl dX7_isRule_8 ?_
  refine tr_V.gd (fun h3 => ?_)
  exact tr_V.zret h3 dX7_isRule_11 rfl (fun h => h)
abbrev xX7_ruleAt : tr_X := (cX7_ruleAt, 3, RX7, (some .int), 1, shM, 24)
theorem cw_X7_ruleAt : Cond.code yX7_ruleAt cX7_ruleAt 3 (some .int) ∈ tr_tbl := tr_in 1410 (by decide +kernel) rfl
theorem yk_X7_ruleAt : tr_yk yX7_ruleAt (xX7_ruleAt) 2 := ⟨cw_X7_ruleAt, in_X7, ⟨by decide +kernel, by decide +kernel, by decide +kernel⟩, Nat.le_of_ble_eq_true rfl⟩
theorem iv_X7_ruleAt : Cond.instanceMethod yX7_ruleAt ∈ tr_tbl ∧ Cond.selects (yX7_ruleAt).cls yX7_ruleAt yX7_ruleAt ∈ tr_tbl := ⟨tr_in 1409 (by decide +kernel) rfl, tr_in 73 (by decide +kernel) rfl⟩
def mX7_ruleAt (p1 : Int32) (p2 : Int32) (M : tr_M) : Option (Int32) :=
  Option.bind (tr_rd 40 M 9 (((5 : Int32) * p1) + p2)) (fun a1 =>
  some a1
  )
set_option maxRecDepth 100000 in
set_option maxHeartbeats 4000000 in
theorem C_X7_ruleAt (p1 : Int32) (p2 : Int32) (M : tr_M) (r : Int32) (h : mX7_ruleAt p1 p2 M = some r) : tr_I yX7_ruleAt (xX7_ruleAt) [.ref 1, .int p1, .int p2] M (some (.int r)) M := by
  refine tr_I.of (Z := fun q : Int32 => (some (.int r) : Option Value) = some (.int q) ∧ M = M) pn_X7 rfl gdM (Nat.le_of_ble_eq_true rfl) (fun Wt => ?_) h ⟨rfl, rfl⟩
  unfold mX7_ruleAt
  refine tr_V.aload_n (i := 0) dX7_ruleAt_0 rfl rfl ?_
  refine tr_V.getR (Nat.succ_pos _) fl_X7_32 shM_1 rfl dX7_ruleAt_1 ?_
  refine tr_V.iconst (v := (5 : Int32)) dX7_ruleAt_4 (by decide) ?_
  refine tr_V.iload_n (i := 1) dX7_ruleAt_5 rfl rfl ?_
  refine tr_V.imul dX7_ruleAt_6 ?_
  refine tr_V.iload_n (i := 2) dX7_ruleAt_7 rfl rfl ?_
  refine tr_V.iadd dX7_ruleAt_8 ?_
  refine tr_V.bd (fun a1 h2 => ?_)
  refine tr_V.iald h2 shM_9 dX7_ruleAt_9 ?_
  exact tr_V.iret dX7_ruleAt_10 rfl (fun h => h)
abbrev xX7_off : tr_X := (cX7_off, 4, RX7, (some .int), 3, shM, 24)
theorem cw_X7_off : Cond.code yX7_off cX7_off 4 (some .int) ∈ tr_tbl := tr_in 1402 (by decide +kernel) rfl
theorem yk_X7_off : tr_yk yX7_off (xX7_off) 2 := ⟨cw_X7_off, in_X7, ⟨by decide +kernel, by decide +kernel, by decide +kernel⟩, Nat.le_of_ble_eq_true rfl⟩
theorem iv_X7_off : Cond.instanceMethod yX7_off ∈ tr_tbl ∧ Cond.selects (yX7_off).cls yX7_off yX7_off ∈ tr_tbl := ⟨tr_in 1400 (by decide +kernel) rfl, tr_in 1401 (by decide +kernel) rfl⟩
def mX7_off (p1 : Int32) (p2 : Int32) (M : tr_M) : Option (Int32 × tr_M) :=
  Option.bind (mX7_isRule p1 M) (fun c1 =>
  if c1 = 0 then (
    some ((-1 : Int32), M)
  ) else (
    if (mX7_in p2 (0 : Int32) (1 : Int32)) = 0 then (
      some ((-1 : Int32), M)
    ) else (
      Option.bind (mX7_ruleAt p1 (4 : Int32) M) (fun c5 =>
      Option.bind (tr_wr 40 M 9 (((5 : Int32) * p1) + (4 : Int32)) p2) (fun M7 =>
      some (c5, M7)
      )
      )
    )
  )
  )
set_option maxRecDepth 100000 in
set_option maxHeartbeats 4000000 in
theorem C_X7_off (p1 : Int32) (p2 : Int32) (M : tr_M) (r : Int32 × tr_M) (h : mX7_off p1 p2 M = some r) : tr_I yX7_off (xX7_off) [.ref 1, .int p1, .int p2] M (some (.int r.1)) r.2 := by
  refine tr_I.of (Z := fun q : Int32 × tr_M => (some (.int r.1) : Option Value) = some (.int q.1) ∧ r.2 = q.2) pn_X7 rfl gdM (Nat.le_of_ble_eq_true rfl) (fun Wt => ?_) h ⟨rfl, rfl⟩
  unfold mX7_off
  refine tr_V.aload_n (i := 0) dX7_off_0 rfl rfl ?_
  refine tr_V.iload_n (i := 1) dX7_off_1 rfl rfl ?_
  refine tr_V.bd (fun c1 h2 => ?_)
  refine tr_V.callV (C_X7_isRule p1 M _ h2) yk_X7_isRule iv_X7_isRule ml_X7_177 shM_1 rfl ⟨rfl, Nat.le_of_ble_eq_true rfl⟩ rfl (Nat.le_of_ble_eq_true rfl) rfl dX7_off_2 ?_
  refine tr_V.if_eq (tgt := 17) dX7_off_5 (by decide) ?_ ?_
  · refine tr_V.iconst (v := (-1 : Int32)) dX7_off_17 (by decide) ?_
    exact tr_V.iret dX7_off_18 rfl (fun h => h)
  · refine tr_V.iload_n (i := 2) dX7_off_8 rfl rfl ?_
    refine tr_V.iconst (v := (0 : Int32)) dX7_off_9 (by decide) ?_
    refine tr_V.iconst (v := (1 : Int32)) dX7_off_10 (by decide) ?_
    refine tr_V.callS (C_X7_in p2 (0 : Int32) (1 : Int32) M) yk_X7_in sc_X7_in ml_X7_92 ⟨rfl, Nat.le_of_ble_eq_true rfl⟩ rfl (Nat.le_of_ble_eq_true rfl) rfl dX7_off_11 ?_
    refine tr_V.if_ne (tgt := 19) dX7_off_14 (by decide) ?_ ?_
    · refine tr_V.iconst (v := (-1 : Int32)) dX7_off_17 (by decide) ?_
      exact tr_V.iret dX7_off_18 rfl (fun h => h)
    · refine tr_V.aload_n (i := 0) dX7_off_19 rfl rfl ?_
      refine tr_V.iload_n (i := 1) dX7_off_20 rfl rfl ?_
      refine tr_V.iconst (v := (4 : Int32)) dX7_off_21 (by decide) ?_
      refine tr_V.bd (fun c5 h6 => ?_)
      refine tr_V.callV (C_X7_ruleAt p1 (4 : Int32) M _ h6) yk_X7_ruleAt iv_X7_ruleAt ml_X7_180 shM_1 rfl ⟨rfl, Nat.le_of_ble_eq_true rfl⟩ rfl (Nat.le_of_ble_eq_true rfl) rfl dX7_off_22 ?_
      refine tr_V.istore_n (i := 3) dX7_off_25 rfl (Nat.le_of_ble_eq_true rfl) rfl ?_
      refine tr_V.aload_n (i := 0) dX7_off_26 rfl rfl ?_
      refine tr_V.getR (Nat.succ_pos _) fl_X7_32 shM_1 rfl dX7_off_27 ?_
      refine tr_V.iconst (v := (5 : Int32)) dX7_off_30 (by decide) ?_
      refine tr_V.iload_n (i := 1) dX7_off_31 rfl rfl ?_
      refine tr_V.imul dX7_off_32 ?_
      refine tr_V.iconst (v := (4 : Int32)) dX7_off_33 (by decide) ?_
      refine tr_V.iadd dX7_off_34 ?_
      refine tr_V.iload_n (i := 2) dX7_off_35 rfl rfl ?_
      refine tr_V.bd (fun M7 h8 => ?_)
      refine tr_V.iast h8 shM_9 dX7_off_36 ?_
      refine tr_V.iload_n (i := 3) dX7_off_37 rfl rfl ?_
      exact tr_V.iret dX7_off_38 rfl (fun h => h)
abbrev xX7_back : tr_X := (cX7_back, 3, RX7, (some .int), 2, shM, 24)
theorem cw_X7_back : Cond.code yX7_back cX7_back 3 (some .int) ∈ tr_tbl := tr_in 1414 (by decide +kernel) rfl
theorem yk_X7_back : tr_yk yX7_back (xX7_back) 1 := ⟨cw_X7_back, in_X7, ⟨by decide +kernel, by decide +kernel, by decide +kernel⟩, Nat.le_of_ble_eq_true rfl⟩
theorem iv_X7_back : Cond.instanceMethod yX7_back ∈ tr_tbl ∧ Cond.selects (yX7_back).cls yX7_back yX7_back ∈ tr_tbl := ⟨tr_in 1412 (by decide +kernel) rfl, tr_in 1413 (by decide +kernel) rfl⟩
def mX7_back (p1 : Int32) (M : tr_M) : Option (Int32 × tr_M) :=
  if (mX7_in p1 (0 : Int32) (M.1 1 12)) = 0 then (
    some ((-1 : Int32), M)
  ) else (
    Option.bind (some (tr_st M 1 12 p1)) (fun M3 =>
    some (((M.1 1 12) - p1), M3)
    )
  )
set_option maxRecDepth 100000 in
set_option maxHeartbeats 4000000 in
theorem C_X7_back (p1 : Int32) (M : tr_M) (r : Int32 × tr_M) (h : mX7_back p1 M = some r) : tr_I yX7_back (xX7_back) [.ref 1, .int p1] M (some (.int r.1)) r.2 := by
  refine tr_I.of (Z := fun q : Int32 × tr_M => (some (.int r.1) : Option Value) = some (.int q.1) ∧ r.2 = q.2) pn_X7 rfl gdM (Nat.le_of_ble_eq_true rfl) (fun Wt => ?_) h ⟨rfl, rfl⟩
  unfold mX7_back
  refine tr_V.iload_n (i := 1) dX7_back_0 rfl rfl ?_
  refine tr_V.iconst (v := (0 : Int32)) dX7_back_1 (by decide) ?_
  refine tr_V.aload_n (i := 0) dX7_back_2 rfl rfl ?_
  refine tr_V.getI fl_X7_160 shM_1 rfl dX7_back_3 ?_
  refine tr_V.callS (C_X7_in p1 (0 : Int32) (M.1 1 12) M) yk_X7_in sc_X7_in ml_X7_92 ⟨rfl, Nat.le_of_ble_eq_true rfl⟩ rfl (Nat.le_of_ble_eq_true rfl) rfl dX7_back_6 ?_
  refine tr_V.if_ne (tgt := 14) dX7_back_9 (by decide) ?_ ?_
  · refine tr_V.iconst (v := (-1 : Int32)) dX7_back_12 (by decide) ?_
    exact tr_V.iret dX7_back_13 rfl (fun h => h)
  · refine tr_V.aload_n (i := 0) dX7_back_14 rfl rfl ?_
    refine tr_V.getI fl_X7_160 shM_1 rfl dX7_back_15 ?_
    refine tr_V.iload_n (i := 1) dX7_back_18 rfl rfl ?_
    refine tr_V.isub dX7_back_19 ?_
    refine tr_V.istore_n (i := 2) dX7_back_20 rfl (Nat.le_of_ble_eq_true rfl) rfl ?_
    refine tr_V.aload_n (i := 0) dX7_back_21 rfl rfl ?_
    refine tr_V.iload_n (i := 1) dX7_back_22 rfl rfl ?_
    refine tr_V.bd (fun M3 h4 => ?_)
    refine tr_V.putI fl_X7_160 shM_1 rfl dX7_back_23 h4 ?_
    refine tr_V.iload_n (i := 2) dX7_back_26 rfl rfl ?_
    exact tr_V.iret dX7_back_27 rfl (fun h => h)
abbrev xX7_told : tr_X := (cX7_told, 3, RX7, (some .int), 3, shM, 24)
theorem cw_X7_told : Cond.code yX7_told cX7_told 3 (some .int) ∈ tr_tbl := tr_in 1418 (by decide +kernel) rfl
theorem yk_X7_told : tr_yk yX7_told (xX7_told) 2 := ⟨cw_X7_told, in_X7, ⟨by decide +kernel, by decide +kernel, by decide +kernel⟩, Nat.le_of_ble_eq_true rfl⟩
theorem iv_X7_told : Cond.instanceMethod yX7_told ∈ tr_tbl ∧ Cond.selects (yX7_told).cls yX7_told yX7_told ∈ tr_tbl := ⟨tr_in 1416 (by decide +kernel) rfl, tr_in 1417 (by decide +kernel) rfl⟩
def mX7_told (p1 : Int32) (p2 : Int32) (M : tr_M) : Option (Int32 × tr_M) :=
  Option.bind (mX7_isRule p1 M) (fun c1 =>
  if c1 = 0 then (
    some ((-1 : Int32), M)
  ) else (
    if (mX7_in p2 (0 : Int32) (4 : Int32)) = 0 then (
      some ((-1 : Int32), M)
    ) else (
      Option.bind (mX7_ruleAt p1 p2 M) (fun c5 =>
      Option.bind (mX7_tells c5 (1 : Int32) M) (fun c7 =>
      some (c7.1, c7.2)
      )
      )
    )
  )
  )
set_option maxRecDepth 100000 in
set_option maxHeartbeats 4000000 in
theorem C_X7_told (p1 : Int32) (p2 : Int32) (M : tr_M) (r : Int32 × tr_M) (h : mX7_told p1 p2 M = some r) : tr_I yX7_told (xX7_told) [.ref 1, .int p1, .int p2] M (some (.int r.1)) r.2 := by
  refine tr_I.of (Z := fun q : Int32 × tr_M => (some (.int r.1) : Option Value) = some (.int q.1) ∧ r.2 = q.2) pn_X7 rfl gdM (Nat.le_of_ble_eq_true rfl) (fun Wt => ?_) h ⟨rfl, rfl⟩
  unfold mX7_told
  refine tr_V.aload_n (i := 0) dX7_told_0 rfl rfl ?_
  refine tr_V.iload_n (i := 1) dX7_told_1 rfl rfl ?_
  refine tr_V.bd (fun c1 h2 => ?_)
  refine tr_V.callV (C_X7_isRule p1 M _ h2) yk_X7_isRule iv_X7_isRule ml_X7_177 shM_1 rfl ⟨rfl, Nat.le_of_ble_eq_true rfl⟩ rfl (Nat.le_of_ble_eq_true rfl) rfl dX7_told_2 ?_
  refine tr_V.if_eq (tgt := 31) dX7_told_5 (by decide) ?_ ?_
  · refine tr_V.iconst (v := (-1 : Int32)) dX7_told_31 (by decide) ?_
    exact tr_V.iret dX7_told_32 rfl (fun h => h)
  · refine tr_V.iload_n (i := 2) dX7_told_8 rfl rfl ?_
    refine tr_V.iconst (v := (0 : Int32)) dX7_told_9 (by decide) ?_
    refine tr_V.iconst (v := (4 : Int32)) dX7_told_10 (by decide) ?_
    refine tr_V.callS (C_X7_in p2 (0 : Int32) (4 : Int32) M) yk_X7_in sc_X7_in ml_X7_92 ⟨rfl, Nat.le_of_ble_eq_true rfl⟩ rfl (Nat.le_of_ble_eq_true rfl) rfl dX7_told_11 ?_
    refine tr_V.if_eq (tgt := 31) dX7_told_14 (by decide) ?_ ?_
    · refine tr_V.iconst (v := (-1 : Int32)) dX7_told_31 (by decide) ?_
      exact tr_V.iret dX7_told_32 rfl (fun h => h)
    · refine tr_V.aload_n (i := 0) dX7_told_17 rfl rfl ?_
      refine tr_V.aload_n (i := 0) dX7_told_18 rfl rfl ?_
      refine tr_V.iload_n (i := 1) dX7_told_19 rfl rfl ?_
      refine tr_V.iload_n (i := 2) dX7_told_20 rfl rfl ?_
      refine tr_V.bd (fun c5 h6 => ?_)
      refine tr_V.callV (C_X7_ruleAt p1 p2 M _ h6) yk_X7_ruleAt iv_X7_ruleAt ml_X7_180 shM_1 rfl ⟨rfl, Nat.le_of_ble_eq_true rfl⟩ rfl (Nat.le_of_ble_eq_true rfl) rfl dX7_told_21 ?_
      refine tr_V.iconst (v := (1 : Int32)) dX7_told_24 (by decide) ?_
      refine tr_V.bd (fun c7 h8 => ?_)
      refine tr_V.callV (C_X7_tells c5 (1 : Int32) M _ h8) yk_X7_tells iv_X7_tells ml_X7_114 shM_1 rfl ⟨rfl, Nat.le_of_ble_eq_true rfl⟩ rfl (Nat.le_of_ble_eq_true rfl) rfl dX7_told_25 ?_
      refine tr_V.goto (tgt := 32) dX7_told_28 (by decide) ?_
      exact tr_V.iret dX7_told_32 rfl (fun h => h)
