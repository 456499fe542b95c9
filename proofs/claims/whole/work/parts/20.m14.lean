abbrev xX7_drawLine : tr_X := (cX7_drawLine, 7, RX7, (some .int), 2, shM, 24)
theorem cw_X7_drawLine : Cond.code yX7_drawLine cX7_drawLine 7 (some .int) ∈ tr_tbl := tr_in 1740 (by decide +kernel) rfl
theorem yk_X7_drawLine : tr_yk yX7_drawLine (xX7_drawLine) 1 := ⟨cw_X7_drawLine, in_X7, ⟨by decide +kernel, by decide +kernel, by decide +kernel⟩, Nat.le_of_ble_eq_true rfl⟩
theorem iv_X7_drawLine : Cond.instanceMethod yX7_drawLine ∈ tr_tbl ∧ Cond.selects (yX7_drawLine).cls yX7_drawLine yX7_drawLine ∈ tr_tbl := ⟨tr_in 1739 (by decide +kernel) rfl, tr_in 124 (by decide +kernel) rfl⟩
def mX7_drawLine_l42 (s4 : Int32 × Int32 × Int32 × tr_M) (s11 : Int32 × Int32) : Option ((Int32 × Int32) ⊕ (Int32)) :=
  Option.bind (show Option ((Unit) ⊕ ((Int32 × Int32) ⊕ (Int32))) from
    if (mX7_has s4.2.1 s11.2) = 0 then (
      some (.inl ())
    ) else (
      if 0 < s11.1 then (
        some (.inl ())
      ) else (
        some (.inr (.inr s11.2))
      )
    )
  ) (tr_el (fun (v14 : Unit) =>
    if (mX7_has s4.2.1 s11.2) = 0 then (
      some (.inl ((s11.1 - (0 : Int32)), (s11.2 + (1 : Int32))))
    ) else (
      some (.inl ((s11.1 - (1 : Int32)), (s11.2 + (1 : Int32))))
    )
  ))
def mX7_drawLine_l10  (s4 : Int32 × Int32 × Int32 × tr_M) : Option ((Int32 × Int32 × Int32 × tr_M) ⊕ (Int32 × tr_M)) :=
  if s4.2.2.1 < (s4.2.2.2.1 1 10) then (
    Option.bind (some ((((48271 : Int64) * s4.1.toInt64) - ((48271 : Int64) * s4.1.toInt64) / (2147483647 : Int64) * (2147483647 : Int64)).toInt32)) (fun x5 =>
    Option.bind (mX7_bits s4.2.1) (fun c7 =>
    Option.bind (tr_rmi x5 c7) (fun q9 =>
    Option.bind (show Option (Int32) from
      tr_loop (mX7_drawLine_l42 s4) (q9, (0 : Int32))
    ) (fun (v10 : Int32) =>
      Option.bind (tr_wr 10 s4.2.2.2 12 s4.2.2.1 v10) (fun M17 =>
      Option.bind (some (s4.2.1 &&& (((1 : Int32) <<< (v10 &&& 31)) ^^^ (-1 : Int32)))) (fun x19 =>
      some (.inl (x5, x19, (s4.2.2.1 + (1 : Int32)), M17))
      )
      )
    )
    )
    )
    )
  ) else (
    some (.inr (s4.1, s4.2.2.2))
  )
def mX7_drawLine (p1 : Int32) (M : tr_M) : Option (Int32 × tr_M) :=
  Option.bind (show Option (Int32 × tr_M) from
    tr_loop (mX7_drawLine_l10) (p1, (mX7_full M), (0 : Int32), M)
  ) (fun (v3 : Int32 × tr_M) =>
    Option.bind (mX7_layPlaces v3.2) (fun c21 =>
    some (v3.1, c21)
    )
  )
set_option maxRecDepth 100000 in
set_option maxHeartbeats 4000000 in
theorem C_X7_drawLine (p1 : Int32) (M : tr_M) (r : Int32 × tr_M) (h : mX7_drawLine p1 M = some r) : tr_I yX7_drawLine (xX7_drawLine) [.ref 1, .int p1] M (some (.int r.1)) r.2 := by
  refine tr_I.of (Z := fun q : Int32 × tr_M => (some (.int r.1) : Option Value) = some (.int q.1) ∧ r.2 = q.2) pn_X7 rfl gdM (Nat.le_of_ble_eq_true rfl) (fun Wt => ?_) h ⟨rfl, rfl⟩
  unfold mX7_drawLine
  refine tr_V.iload_n (i := 1) dX7_drawLine_0 rfl rfl ?_
  refine tr_V.istore_n (i := 2) dX7_drawLine_1 rfl (Nat.le_of_ble_eq_true rfl) rfl ?_
  refine tr_V.aload_n (i := 0) dX7_drawLine_2 rfl rfl ?_
  refine tr_V.callV (C_X7_full M) yk_X7_full iv_X7_full ml_X7_236 shM_1 rfl ⟨rfl, Nat.le_of_ble_eq_true rfl⟩ rfl (Nat.le_of_ble_eq_true rfl) rfl dX7_drawLine_3 ?_
  refine tr_V.istore_n (i := 3) dX7_drawLine_6 rfl (Nat.le_of_ble_eq_true rfl) rfl ?_
  refine tr_V.iconst (v := (0 : Int32)) dX7_drawLine_7 (by decide) ?_
  refine tr_V.istore (i := 4) dX7_drawLine_8 (Nat.le_of_ble_eq_true rfl) rfl ?_
  refine tr_V.seq (τ := Int32 × tr_M) (pc' := 105) (L := fun v3 => [(0, some (.ref 1)), (2, some (.int v3.1))]) (S := fun v3 => []) (Mf := fun v3 => v3.2) ?_ ?_
  · refine tr_V.loop (σ := Int32 × Int32 × Int32 × tr_M) (step := mX7_drawLine_l10) (L := fun s4 => [(0, some (.ref 1)), (2, some (.int s4.1)), (3, some (.int s4.2.1)), (4, some (.int s4.2.2.1))]) (Mf := fun s4 => s4.2.2.2) ?_ (p1, (mX7_full M), (0 : Int32), M) ⟨rfl, rfl, rfl, rfl, trivial⟩
    intro s4
    refine tr_V.iload dX7_drawLine_10 rfl ?_
    refine tr_V.aload_n (i := 0) dX7_drawLine_12 rfl rfl ?_
    refine tr_V.getI fl_X7_157 shM_1 rfl dX7_drawLine_13 ?_
    refine tr_V.icmp_ge (tgt := 105) dX7_drawLine_16 (by decide) ?_ ?_
    · refine tr_V.ldc2 ct_X7_374 dX7_drawLine_19 ?_
      refine tr_V.iload_n (i := 2) dX7_drawLine_22 rfl rfl ?_
      refine tr_V.i2l dX7_drawLine_23 ?_
      refine tr_V.lmul dX7_drawLine_24 ?_
      refine tr_V.ldc2 ct_X7_376 dX7_drawLine_25 ?_
      refine tr_V.lremL dX7_drawLine_28 (by decide) ?_
      refine tr_V.l2i dX7_drawLine_29 ?_
      refine tr_V.bd (fun x5 h6 => ?_)
      refine tr_V.nmI h6 ?_
      refine tr_V.istore_n (i := 2) dX7_drawLine_30 rfl (Nat.le_of_ble_eq_true rfl) rfl ?_
      refine tr_V.iload_n (i := 2) dX7_drawLine_31 rfl rfl ?_
      refine tr_V.iload_n (i := 3) dX7_drawLine_32 rfl rfl ?_
      refine tr_V.bd (fun c7 h8 => ?_)
      refine tr_V.callS (C_X7_bits s4.2.1 s4.2.2.2 _ h8) yk_X7_bits sc_X7_bits ml_X7_226 ⟨rfl, Nat.le_of_ble_eq_true rfl⟩ rfl (Nat.le_of_ble_eq_true rfl) rfl dX7_drawLine_33 ?_
      refine tr_V.irem dX7_drawLine_36 (fun q9 => ?_)
      refine tr_V.istore (i := 5) dX7_drawLine_37 (Nat.le_of_ble_eq_true rfl) rfl ?_
      refine tr_V.iconst (v := (0 : Int32)) dX7_drawLine_39 (by decide) ?_
      refine tr_V.istore (i := 6) dX7_drawLine_40 (Nat.le_of_ble_eq_true rfl) rfl ?_
      refine tr_V.seq (τ := Int32) (pc' := 81) (L := fun v10 => [(0, some (.ref 1)), (2, some (.int x5)), (3, some (.int s4.2.1)), (4, some (.int s4.2.2.1)), (6, some (.int v10))]) (S := fun v10 => []) (Mf := fun v10 => s4.2.2.2) ?_ ?_
      · refine tr_V.loop (σ := Int32 × Int32) (step := mX7_drawLine_l42 s4) (L := fun s11 => [(0, some (.ref 1)), (2, some (.int x5)), (3, some (.int s4.2.1)), (4, some (.int s4.2.2.1)), (5, some (.int s11.1)), (6, some (.int s11.2))]) (Mf := fun s11 => s4.2.2.2) ?_ (q9, (0 : Int32)) ⟨rfl, rfl, rfl, rfl, rfl, rfl, trivial⟩
        intro s11
        refine tr_V.iload_n (i := 3) dX7_drawLine_42 rfl rfl ?_
        refine tr_V.iload dX7_drawLine_43 rfl ?_
        refine tr_V.callS (C_X7_has s4.2.1 s11.2 s4.2.2.2) yk_X7_has sc_X7_has ml_X7_186 ⟨rfl, Nat.le_of_ble_eq_true rfl⟩ rfl (Nat.le_of_ble_eq_true rfl) rfl dX7_drawLine_45 ?_
        refine tr_V.seqE (τ := Unit) (pc' := 56) (L := fun v14 => [(0, some (.ref 1)), (2, some (.int x5)), (3, some (.int s4.2.1)), (4, some (.int s4.2.2.1)), (5, some (.int s11.1)), (6, some (.int s11.2))]) (S := fun v14 => []) (Mf := fun v14 => s4.2.2.2) ?_ ?_
        · refine tr_V.if_eq (tgt := 56) dX7_drawLine_48 (by decide) ?_ ?_
          · exact tr_V.to (fun h => h) ⟨rfl, rfl, rfl, rfl, rfl, rfl, trivial⟩
          · refine tr_V.iload dX7_drawLine_51 rfl ?_
            refine tr_V.if_le (tgt := 81) dX7_drawLine_53 (by decide) ?_ ?_
            · exact tr_V.to (fun h => h) ⟨rfl, rfl, rfl, rfl, rfl, rfl, trivial⟩
            · exact tr_V.to (fun h => h) ⟨rfl, rfl, rfl, rfl, rfl, trivial⟩
        · intro v14
          refine tr_V.iload dX7_drawLine_56 rfl ?_
          refine tr_V.iload_n (i := 3) dX7_drawLine_58 rfl rfl ?_
          refine tr_V.iload dX7_drawLine_59 rfl ?_
          refine tr_V.callS (C_X7_has s4.2.1 s11.2 s4.2.2.2) yk_X7_has sc_X7_has ml_X7_186 ⟨rfl, Nat.le_of_ble_eq_true rfl⟩ rfl (Nat.le_of_ble_eq_true rfl) rfl dX7_drawLine_61 ?_
          refine tr_V.if_eq (tgt := 71) dX7_drawLine_64 (by decide) ?_ ?_
          · refine tr_V.iconst (v := (0 : Int32)) dX7_drawLine_71 (by decide) ?_
            refine tr_V.isub dX7_drawLine_72 ?_
            refine tr_V.istore (i := 5) dX7_drawLine_73 (Nat.le_of_ble_eq_true rfl) rfl ?_
            refine tr_V.iinc (cst := (1 : Int32)) dX7_drawLine_75 rfl (by decide) rfl ?_
            refine tr_V.goto (tgt := 42) dX7_drawLine_78 (by decide) ?_
            exact tr_V.to (fun h => h) ⟨rfl, rfl, rfl, rfl, rfl, rfl, trivial⟩
          · refine tr_V.iconst (v := (1 : Int32)) dX7_drawLine_67 (by decide) ?_
            refine tr_V.goto (tgt := 72) dX7_drawLine_68 (by decide) ?_
            refine tr_V.isub dX7_drawLine_72 ?_
            refine tr_V.istore (i := 5) dX7_drawLine_73 (Nat.le_of_ble_eq_true rfl) rfl ?_
            refine tr_V.iinc (cst := (1 : Int32)) dX7_drawLine_75 rfl (by decide) rfl ?_
            refine tr_V.goto (tgt := 42) dX7_drawLine_78 (by decide) ?_
            exact tr_V.to (fun h => h) ⟨rfl, rfl, rfl, rfl, rfl, rfl, trivial⟩
      · intro v10
        refine tr_V.aload_n (i := 0) dX7_drawLine_81 rfl rfl ?_
        refine tr_V.getR (Nat.succ_pos _) fl_X7_41 shM_1 rfl dX7_drawLine_82 ?_
        refine tr_V.iload dX7_drawLine_85 rfl ?_
        refine tr_V.iload dX7_drawLine_87 rfl ?_
        refine tr_V.bd (fun M17 h18 => ?_)
        refine tr_V.iast h18 shM_12 dX7_drawLine_89 ?_
        refine tr_V.iload_n (i := 3) dX7_drawLine_90 rfl rfl ?_
        refine tr_V.iconst (v := (1 : Int32)) dX7_drawLine_91 (by decide) ?_
        refine tr_V.iload dX7_drawLine_92 rfl ?_
        refine tr_V.ishl dX7_drawLine_94 ?_
        refine tr_V.iconst (v := (-1 : Int32)) dX7_drawLine_95 (by decide) ?_
        refine tr_V.ixor dX7_drawLine_96 ?_
        refine tr_V.iand dX7_drawLine_97 ?_
        refine tr_V.bd (fun x19 h20 => ?_)
        refine tr_V.nmI h20 ?_
        refine tr_V.istore_n (i := 3) dX7_drawLine_98 rfl (Nat.le_of_ble_eq_true rfl) rfl ?_
        refine tr_V.iinc (cst := (1 : Int32)) dX7_drawLine_99 rfl (by decide) rfl ?_
        refine tr_V.goto (tgt := 10) dX7_drawLine_102 (by decide) ?_
        exact tr_V.to (fun h => h) ⟨rfl, rfl, rfl, rfl, trivial⟩
    · exact tr_V.to (fun h => h) ⟨rfl, rfl, trivial⟩
  · intro v3
    refine tr_V.aload_n (i := 0) dX7_drawLine_105 rfl rfl ?_
    refine tr_V.bd (fun c21 h22 => ?_)
    refine tr_V.callV (C_X7_layPlaces v3.2 _ h22) yk_X7_layPlaces iv_X7_layPlaces ml_X7_189 shM_1 rfl ⟨rfl, Nat.le_of_ble_eq_true rfl⟩ rfl (Nat.le_of_ble_eq_true rfl) rfl dX7_drawLine_106 ?_
    refine tr_V.iload_n (i := 2) dX7_drawLine_109 rfl rfl ?_
    exact tr_V.iret dX7_drawLine_110 rfl (fun h => h)
abbrev xX7_draw : tr_X := (cX7_draw, 4, RX7, (some .int), 3, shM, 24)
theorem cw_X7_draw : Cond.code yX7_draw cX7_draw 4 (some .int) ∈ tr_tbl := tr_in 1732 (by decide +kernel) rfl
theorem yk_X7_draw : tr_yk yX7_draw (xX7_draw) 2 := ⟨cw_X7_draw, in_X7, ⟨by decide +kernel, by decide +kernel, by decide +kernel⟩, Nat.le_of_ble_eq_true rfl⟩
theorem iv_X7_draw : Cond.instanceMethod yX7_draw ∈ tr_tbl ∧ Cond.selects (yX7_draw).cls yX7_draw yX7_draw ∈ tr_tbl := ⟨tr_in 1730 (by decide +kernel) rfl, tr_in 1731 (by decide +kernel) rfl⟩
def mX7_draw (p1 : Int32) (p2 : Int32) (M : tr_M) : Option (Int32 × tr_M) :=
  Option.bind (mX7_isSeed p1) (fun c1 =>
  if c1 = 0 then (
    some ((-1 : Int32), M)
  ) else (
    Option.bind (mX7_isRow p2) (fun c3 =>
    if c3 = 0 then (
      some ((-1 : Int32), M)
    ) else (
      Option.bind (mX7_drawLine p1 M) (fun c5 =>
      Option.bind (mX7_lineToRow p2 c5.2) (fun c7 =>
      some (c5.1, c7)
      )
      )
    )
    )
  )
  )
set_option maxRecDepth 100000 in
set_option maxHeartbeats 4000000 in
theorem C_X7_draw (p1 : Int32) (p2 : Int32) (M : tr_M) (r : Int32 × tr_M) (h : mX7_draw p1 p2 M = some r) : tr_I yX7_draw (xX7_draw) [.ref 1, .int p1, .int p2] M (some (.int r.1)) r.2 := by
  refine tr_I.of (Z := fun q : Int32 × tr_M => (some (.int r.1) : Option Value) = some (.int q.1) ∧ r.2 = q.2) pn_X7 rfl gdM (Nat.le_of_ble_eq_true rfl) (fun Wt => ?_) h ⟨rfl, rfl⟩
  unfold mX7_draw
  refine tr_V.iload_n (i := 1) dX7_draw_0 rfl rfl ?_
  refine tr_V.bd (fun c1 h2 => ?_)
  refine tr_V.callS (C_X7_isSeed p1 M _ h2) yk_X7_isSeed sc_X7_isSeed ml_X7_378 ⟨rfl, Nat.le_of_ble_eq_true rfl⟩ rfl (Nat.le_of_ble_eq_true rfl) rfl dX7_draw_1 ?_
  refine tr_V.if_eq (tgt := 14) dX7_draw_4 (by decide) ?_ ?_
  · refine tr_V.iconst (v := (-1 : Int32)) dX7_draw_14 (by decide) ?_
    exact tr_V.iret dX7_draw_15 rfl (fun h => h)
  · refine tr_V.iload_n (i := 2) dX7_draw_7 rfl rfl ?_
    refine tr_V.bd (fun c3 h4 => ?_)
    refine tr_V.callS (C_X7_isRow p2 M _ h4) yk_X7_isRow sc_X7_isRow ml_X7_102 ⟨rfl, Nat.le_of_ble_eq_true rfl⟩ rfl (Nat.le_of_ble_eq_true rfl) rfl dX7_draw_8 ?_
    refine tr_V.if_ne (tgt := 16) dX7_draw_11 (by decide) ?_ ?_
    · refine tr_V.iconst (v := (-1 : Int32)) dX7_draw_14 (by decide) ?_
      exact tr_V.iret dX7_draw_15 rfl (fun h => h)
    · refine tr_V.aload_n (i := 0) dX7_draw_16 rfl rfl ?_
      refine tr_V.iload_n (i := 1) dX7_draw_17 rfl rfl ?_
      refine tr_V.bd (fun c5 h6 => ?_)
      refine tr_V.callV (C_X7_drawLine p1 M _ h6) yk_X7_drawLine iv_X7_drawLine ml_X7_381 shM_1 rfl ⟨rfl, Nat.le_of_ble_eq_true rfl⟩ rfl (Nat.le_of_ble_eq_true rfl) rfl dX7_draw_18 ?_
      refine tr_V.istore_n (i := 3) dX7_draw_21 rfl (Nat.le_of_ble_eq_true rfl) rfl ?_
      refine tr_V.aload_n (i := 0) dX7_draw_22 rfl rfl ?_
      refine tr_V.iload_n (i := 2) dX7_draw_23 rfl rfl ?_
      refine tr_V.bd (fun c7 h8 => ?_)
      refine tr_V.callV (C_X7_lineToRow p2 c5.2 _ h8) yk_X7_lineToRow iv_X7_lineToRow ml_X7_308 shM_1 rfl ⟨rfl, Nat.le_of_ble_eq_true rfl⟩ rfl (Nat.le_of_ble_eq_true rfl) rfl dX7_draw_24 ?_
      refine tr_V.iload_n (i := 3) dX7_draw_27 rfl rfl ?_
      exact tr_V.iret dX7_draw_28 rfl (fun h => h)
abbrev xX7_lots : tr_X := (cX7_lots, 8, RX7, (some .int), 5, shM, 24)
theorem cw_X7_lots : Cond.code yX7_lots cX7_lots 8 (some .int) ∈ tr_tbl := tr_in 1746 (by decide +kernel) rfl
theorem yk_X7_lots : tr_yk yX7_lots (xX7_lots) 3 := ⟨cw_X7_lots, in_X7, ⟨by decide +kernel, by decide +kernel, by decide +kernel⟩, Nat.le_of_ble_eq_true rfl⟩
theorem iv_X7_lots : Cond.instanceMethod yX7_lots ∈ tr_tbl ∧ Cond.selects (yX7_lots).cls yX7_lots yX7_lots ∈ tr_tbl := ⟨tr_in 1744 (by decide +kernel) rfl, tr_in 1745 (by decide +kernel) rfl⟩
def mX7_lots_l40 (p1 : Int32) (p2 : Int32) (s8 : Int32 × Int32 × Int32 × Int32 × tr_M) : Option ((Int32 × Int32 × Int32 × Int32 × tr_M) ⊕ (Int32 × Int32 × tr_M)) :=
  if s8.2.2.2.1 < p2 then (
    Option.bind (mX7_drawLine s8.1 s8.2.2.2.2) (fun c9 =>
    Option.bind (mX7_brokenNow c9.2) (fun c11 =>
    if c11 = (-9 : Int32) then (
      Option.bind (mX7_measureNow p1 c9.2) (fun c13 =>
      some (.inl (c9.1, (s8.2.1 + (1 : Int32)), (mX7_lesser s8.2.2.1 c13), (s8.2.2.2.1 + (1 : Int32)), c9.2))
      )
    ) else (
      some (.inl (c9.1, s8.2.1, s8.2.2.1, (s8.2.2.2.1 + (1 : Int32)), c9.2))
    )
    )
    )
  ) else (
    some (.inr (s8.2.1, s8.2.2.1, s8.2.2.2.2))
  )
def mX7_lots (p1 : Int32) (p2 : Int32) (p3 : Int32) (M : tr_M) : Option (Int32 × tr_M) :=
  Option.bind (mX7_isMeasure p1) (fun c1 =>
  if c1 = 0 then (
    some ((-1 : Int32), M)
  ) else (
    if (mX7_in p2 (1 : Int32) (200 : Int32)) = 0 then (
      some ((-1 : Int32), M)
    ) else (
      Option.bind (mX7_isSeed p3) (fun c5 =>
      if c5 = 0 then (
        some ((-1 : Int32), M)
      ) else (
        Option.bind (show Option (Int32 × Int32 × tr_M) from
          tr_loop (mX7_lots_l40 p1 p2) (p3, (0 : Int32), (1000000 : Int32), (0 : Int32), M)
        ) (fun (v7 : Int32 × Int32 × tr_M) =>
          Option.bind (show Option (Int32) from
            if v7.1 = 0 then (
              some (-9 : Int32)
            ) else (
              some v7.2.1
            )
          ) (fun (v17 : Int32) =>
            Option.bind (mX7_tells v17 v7.1 v7.2.2) (fun c18 =>
            some (c18.1, c18.2)
            )
          )
        )
      )
      )
    )
  )
  )
set_option maxRecDepth 100000 in
set_option maxHeartbeats 4000000 in
theorem C_X7_lots (p1 : Int32) (p2 : Int32) (p3 : Int32) (M : tr_M) (r : Int32 × tr_M) (h : mX7_lots p1 p2 p3 M = some r) : tr_I yX7_lots (xX7_lots) [.ref 1, .int p1, .int p2, .int p3] M (some (.int r.1)) r.2 := by
  refine tr_I.of (Z := fun q : Int32 × tr_M => (some (.int r.1) : Option Value) = some (.int q.1) ∧ r.2 = q.2) pn_X7 rfl gdM (Nat.le_of_ble_eq_true rfl) (fun Wt => ?_) h ⟨rfl, rfl⟩
  unfold mX7_lots
  refine tr_V.iload_n (i := 1) dX7_lots_0 rfl rfl ?_
  refine tr_V.bd (fun c1 h2 => ?_)
  refine tr_V.callS (C_X7_isMeasure p1 M _ h2) yk_X7_isMeasure sc_X7_isMeasure ml_X7_211 ⟨rfl, Nat.le_of_ble_eq_true rfl⟩ rfl (Nat.le_of_ble_eq_true rfl) rfl dX7_lots_1 ?_
  refine tr_V.if_eq (tgt := 25) dX7_lots_4 (by decide) ?_ ?_
  · refine tr_V.iconst (v := (-1 : Int32)) dX7_lots_25 (by decide) ?_
    exact tr_V.iret dX7_lots_26 rfl (fun h => h)
  · refine tr_V.iload_n (i := 2) dX7_lots_7 rfl rfl ?_
    refine tr_V.iconst (v := (1 : Int32)) dX7_lots_8 (by decide) ?_
    refine tr_V.sipush (v := (200 : Int32)) dX7_lots_9 (by decide) ?_
    refine tr_V.callS (C_X7_in p2 (1 : Int32) (200 : Int32) M) yk_X7_in sc_X7_in ml_X7_92 ⟨rfl, Nat.le_of_ble_eq_true rfl⟩ rfl (Nat.le_of_ble_eq_true rfl) rfl dX7_lots_12 ?_
    refine tr_V.if_eq (tgt := 25) dX7_lots_15 (by decide) ?_ ?_
    · refine tr_V.iconst (v := (-1 : Int32)) dX7_lots_25 (by decide) ?_
      exact tr_V.iret dX7_lots_26 rfl (fun h => h)
    · refine tr_V.iload_n (i := 3) dX7_lots_18 rfl rfl ?_
      refine tr_V.bd (fun c5 h6 => ?_)
      refine tr_V.callS (C_X7_isSeed p3 M _ h6) yk_X7_isSeed sc_X7_isSeed ml_X7_378 ⟨rfl, Nat.le_of_ble_eq_true rfl⟩ rfl (Nat.le_of_ble_eq_true rfl) rfl dX7_lots_19 ?_
      refine tr_V.if_ne (tgt := 27) dX7_lots_22 (by decide) ?_ ?_
      · refine tr_V.iconst (v := (-1 : Int32)) dX7_lots_25 (by decide) ?_
        exact tr_V.iret dX7_lots_26 rfl (fun h => h)
      · refine tr_V.iload_n (i := 3) dX7_lots_27 rfl rfl ?_
        refine tr_V.istore (i := 4) dX7_lots_28 (Nat.le_of_ble_eq_true rfl) rfl ?_
        refine tr_V.iconst (v := (0 : Int32)) dX7_lots_30 (by decide) ?_
        refine tr_V.istore (i := 5) dX7_lots_31 (Nat.le_of_ble_eq_true rfl) rfl ?_
        refine tr_V.ldc ct_X7_246 dX7_lots_33 ?_
        refine tr_V.istore (i := 6) dX7_lots_35 (Nat.le_of_ble_eq_true rfl) rfl ?_
        refine tr_V.iconst (v := (0 : Int32)) dX7_lots_37 (by decide) ?_
        refine tr_V.istore (i := 7) dX7_lots_38 (Nat.le_of_ble_eq_true rfl) rfl ?_
        refine tr_V.seq (τ := Int32 × Int32 × tr_M) (pc' := 84) (L := fun v7 => [(0, some (.ref 1)), (5, some (.int v7.1)), (6, some (.int v7.2.1))]) (S := fun v7 => []) (Mf := fun v7 => v7.2.2) ?_ ?_
        · refine tr_V.loop (σ := Int32 × Int32 × Int32 × Int32 × tr_M) (step := mX7_lots_l40 p1 p2) (L := fun s8 => [(0, some (.ref 1)), (1, some (.int p1)), (2, some (.int p2)), (4, some (.int s8.1)), (5, some (.int s8.2.1)), (6, some (.int s8.2.2.1)), (7, some (.int s8.2.2.2.1))]) (Mf := fun s8 => s8.2.2.2.2) ?_ (p3, (0 : Int32), (1000000 : Int32), (0 : Int32), M) ⟨rfl, rfl, rfl, rfl, rfl, rfl, rfl, trivial⟩
          intro s8
          refine tr_V.iload dX7_lots_40 rfl ?_
          refine tr_V.iload_n (i := 2) dX7_lots_42 rfl rfl ?_
          refine tr_V.icmp_ge (tgt := 84) dX7_lots_43 (by decide) ?_ ?_
          · refine tr_V.aload_n (i := 0) dX7_lots_46 rfl rfl ?_
            refine tr_V.iload dX7_lots_47 rfl ?_
            refine tr_V.bd (fun c9 h10 => ?_)
            refine tr_V.callV (C_X7_drawLine s8.1 s8.2.2.2.2 _ h10) yk_X7_drawLine iv_X7_drawLine ml_X7_381 shM_1 rfl ⟨rfl, Nat.le_of_ble_eq_true rfl⟩ rfl (Nat.le_of_ble_eq_true rfl) rfl dX7_lots_49 ?_
            refine tr_V.istore (i := 4) dX7_lots_52 (Nat.le_of_ble_eq_true rfl) rfl ?_
            refine tr_V.aload_n (i := 0) dX7_lots_54 rfl rfl ?_
            refine tr_V.bd (fun c11 h12 => ?_)
            refine tr_V.callV (C_X7_brokenNow c9.2 _ h12) yk_X7_brokenNow iv_X7_brokenNow ml_X7_223 shM_1 rfl ⟨rfl, Nat.le_of_ble_eq_true rfl⟩ rfl (Nat.le_of_ble_eq_true rfl) rfl dX7_lots_55 ?_
            refine tr_V.bipush (v := (-9 : Int32)) dX7_lots_58 (by decide) ?_
            refine tr_V.icmp_ne (tgt := 78) dX7_lots_60 (by decide) ?_ ?_
            · refine tr_V.iinc (cst := (1 : Int32)) dX7_lots_63 rfl (by decide) rfl ?_
              refine tr_V.iload dX7_lots_66 rfl ?_
              refine tr_V.aload_n (i := 0) dX7_lots_68 rfl rfl ?_
              refine tr_V.iload_n (i := 1) dX7_lots_69 rfl rfl ?_
              refine tr_V.bd (fun c13 h14 => ?_)
              refine tr_V.callV (C_X7_measureNow p1 c9.2 _ h14) yk_X7_measureNow iv_X7_measureNow ml_X7_217 shM_1 rfl ⟨rfl, Nat.le_of_ble_eq_true rfl⟩ rfl (Nat.le_of_ble_eq_true rfl) rfl dX7_lots_70 ?_
              refine tr_V.callS (C_X7_lesser s8.2.2.1 c13 c9.2) yk_X7_lesser sc_X7_lesser ml_X7_183 ⟨rfl, Nat.le_of_ble_eq_true rfl⟩ rfl (Nat.le_of_ble_eq_true rfl) rfl dX7_lots_73 ?_
              refine tr_V.istore (i := 6) dX7_lots_76 (Nat.le_of_ble_eq_true rfl) rfl ?_
              refine tr_V.iinc (cst := (1 : Int32)) dX7_lots_78 rfl (by decide) rfl ?_
              refine tr_V.goto (tgt := 40) dX7_lots_81 (by decide) ?_
              exact tr_V.to (fun h => h) ⟨rfl, rfl, rfl, rfl, rfl, rfl, rfl, trivial⟩
            · refine tr_V.iinc (cst := (1 : Int32)) dX7_lots_78 rfl (by decide) rfl ?_
              refine tr_V.goto (tgt := 40) dX7_lots_81 (by decide) ?_
              exact tr_V.to (fun h => h) ⟨rfl, rfl, rfl, rfl, rfl, rfl, rfl, trivial⟩
          · exact tr_V.to (fun h => h) ⟨rfl, rfl, rfl, trivial⟩
        · intro v7
          refine tr_V.aload_n (i := 0) dX7_lots_84 rfl rfl ?_
          refine tr_V.iload dX7_lots_85 rfl ?_
          refine tr_V.seq (τ := Int32) (pc' := 97) (L := fun v17 => [(5, some (.int v7.1))]) (S := fun v17 => [.int v17, .ref 1]) (Mf := fun v17 => v7.2.2) ?_ ?_
          · refine tr_V.if_ne (tgt := 95) dX7_lots_87 (by decide) ?_ ?_
            · refine tr_V.bipush (v := (-9 : Int32)) dX7_lots_90 (by decide) ?_
              refine tr_V.goto (tgt := 97) dX7_lots_92 (by decide) ?_
              exact tr_V.to (fun h => h) ⟨rfl, trivial⟩
            · refine tr_V.iload dX7_lots_95 rfl ?_
              exact tr_V.to (fun h => h) ⟨rfl, trivial⟩
          · intro v17
            refine tr_V.iload dX7_lots_97 rfl ?_
            refine tr_V.bd (fun c18 h19 => ?_)
            refine tr_V.callV (C_X7_tells v17 v7.1 v7.2.2 _ h19) yk_X7_tells iv_X7_tells ml_X7_114 shM_1 rfl ⟨rfl, Nat.le_of_ble_eq_true rfl⟩ rfl (Nat.le_of_ble_eq_true rfl) rfl dX7_lots_99 ?_
            exact tr_V.iret dX7_lots_102 rfl (fun h => h)
abbrev xX7_average : tr_X := (cX7_average, 3, RX7, (some .int), 3, shM, 24)
theorem cw_X7_average : Cond.code yX7_average cX7_average 3 (some .int) ∈ tr_tbl := tr_in 1750 (by decide +kernel) rfl
theorem yk_X7_average : tr_yk yX7_average (xX7_average) 0 := ⟨cw_X7_average, in_X7, ⟨by decide +kernel, by decide +kernel, by decide +kernel⟩, Nat.le_of_ble_eq_true rfl⟩
theorem iv_X7_average : Cond.instanceMethod yX7_average ∈ tr_tbl ∧ Cond.selects (yX7_average).cls yX7_average yX7_average ∈ tr_tbl := ⟨tr_in 1748 (by decide +kernel) rfl, tr_in 1749 (by decide +kernel) rfl⟩
def mX7_average_l17 (M : tr_M) (s4 : Int32 × Int32) : Option ((Int32 × Int32) ⊕ (Int32)) :=
  if s4.2 < (M.1 1 10) then (
    Option.bind (mX7_weightOf s4.2 M) (fun c5 =>
    some (.inl ((s4.1 + c5), (s4.2 + (1 : Int32))))
    )
  ) else (
    some (.inr s4.1)
  )
def mX7_average  (M : tr_M) : Option (Int32 × tr_M) :=
  if (M.1 1 10) = 0 then (
    Option.bind (mX7_meets (4 : Int32) M) (fun c1 =>
    some (c1.1, c1.2)
    )
  ) else (
    Option.bind (show Option (Int32) from
      tr_loop (mX7_average_l17 M) ((0 : Int32), (0 : Int32))
    ) (fun (v3 : Int32) =>
      Option.bind (mX7_fraction ((v3.toInt64 / (2 : Int64)) * ((M.1 1 10) + (1 : Int32)).toInt64) (3 : Int64) (1 : Int32) M) (fun c7 =>
      some (c7.1, c7.2)
      )
    )
  )
set_option maxRecDepth 100000 in
set_option maxHeartbeats 4000000 in
theorem C_X7_average  (M : tr_M) (r : Int32 × tr_M) (h : mX7_average M = some r) : tr_I yX7_average (xX7_average) [.ref 1] M (some (.int r.1)) r.2 := by
  refine tr_I.of (Z := fun q : Int32 × tr_M => (some (.int r.1) : Option Value) = some (.int q.1) ∧ r.2 = q.2) pn_X7 rfl gdM (Nat.le_of_ble_eq_true rfl) (fun Wt => ?_) h ⟨rfl, rfl⟩
  unfold mX7_average
  refine tr_V.aload_n (i := 0) dX7_average_0 rfl rfl ?_
  refine tr_V.getI fl_X7_157 shM_1 rfl dX7_average_1 ?_
  refine tr_V.if_ne (tgt := 13) dX7_average_4 (by decide) ?_ ?_
  · refine tr_V.aload_n (i := 0) dX7_average_7 rfl rfl ?_
    refine tr_V.iconst (v := (4 : Int32)) dX7_average_8 (by decide) ?_
    refine tr_V.bd (fun c1 h2 => ?_)
    refine tr_V.callV (C_X7_meets (4 : Int32) M _ h2) yk_X7_meets iv_X7_meets ml_X7_106 shM_1 rfl ⟨rfl, Nat.le_of_ble_eq_true rfl⟩ rfl (Nat.le_of_ble_eq_true rfl) rfl dX7_average_9 ?_
    exact tr_V.iret dX7_average_12 rfl (fun h => h)
  · refine tr_V.iconst (v := (0 : Int32)) dX7_average_13 (by decide) ?_
    refine tr_V.istore_n (i := 1) dX7_average_14 rfl (Nat.le_of_ble_eq_true rfl) rfl ?_
    refine tr_V.iconst (v := (0 : Int32)) dX7_average_15 (by decide) ?_
    refine tr_V.istore_n (i := 2) dX7_average_16 rfl (Nat.le_of_ble_eq_true rfl) rfl ?_
    refine tr_V.seq (τ := Int32) (pc' := 39) (L := fun v3 => [(0, some (.ref 1)), (1, some (.int v3))]) (S := fun v3 => []) (Mf := fun v3 => M) ?_ ?_
    · refine tr_V.loop (σ := Int32 × Int32) (step := mX7_average_l17 M) (L := fun s4 => [(0, some (.ref 1)), (1, some (.int s4.1)), (2, some (.int s4.2))]) (Mf := fun s4 => M) ?_ ((0 : Int32), (0 : Int32)) ⟨rfl, rfl, rfl, trivial⟩
      intro s4
      refine tr_V.iload_n (i := 2) dX7_average_17 rfl rfl ?_
      refine tr_V.aload_n (i := 0) dX7_average_18 rfl rfl ?_
      refine tr_V.getI fl_X7_157 shM_1 rfl dX7_average_19 ?_
      refine tr_V.icmp_ge (tgt := 39) dX7_average_22 (by decide) ?_ ?_
      · refine tr_V.iload_n (i := 1) dX7_average_25 rfl rfl ?_
        refine tr_V.aload_n (i := 0) dX7_average_26 rfl rfl ?_
        refine tr_V.iload_n (i := 2) dX7_average_27 rfl rfl ?_
        refine tr_V.bd (fun c5 h6 => ?_)
        refine tr_V.callV (C_X7_weightOf s4.2 M _ h6) yk_X7_weightOf iv_X7_weightOf ml_X7_329 shM_1 rfl ⟨rfl, Nat.le_of_ble_eq_true rfl⟩ rfl (Nat.le_of_ble_eq_true rfl) rfl dX7_average_28 ?_
        refine tr_V.iadd dX7_average_31 ?_
        refine tr_V.istore_n (i := 1) dX7_average_32 rfl (Nat.le_of_ble_eq_true rfl) rfl ?_
        refine tr_V.iinc (cst := (1 : Int32)) dX7_average_33 rfl (by decide) rfl ?_
        refine tr_V.goto (tgt := 17) dX7_average_36 (by decide) ?_
        exact tr_V.to (fun h => h) ⟨rfl, rfl, rfl, trivial⟩
      · exact tr_V.to (fun h => h) ⟨rfl, rfl, trivial⟩
    · intro v3
      refine tr_V.aload_n (i := 0) dX7_average_39 rfl rfl ?_
      refine tr_V.iload_n (i := 1) dX7_average_40 rfl rfl ?_
      refine tr_V.i2l dX7_average_41 ?_
      refine tr_V.ldc2 ct_X7_384 dX7_average_42 ?_
      refine tr_V.ldivL dX7_average_45 (by decide) ?_
      refine tr_V.aload_n (i := 0) dX7_average_46 rfl rfl ?_
      refine tr_V.getI fl_X7_157 shM_1 rfl dX7_average_47 ?_
      refine tr_V.iconst (v := (1 : Int32)) dX7_average_50 (by decide) ?_
      refine tr_V.iadd dX7_average_51 ?_
      refine tr_V.i2l dX7_average_52 ?_
      refine tr_V.lmul dX7_average_53 ?_
      refine tr_V.ldc2 ct_X7_386 dX7_average_54 ?_
      refine tr_V.iconst (v := (1 : Int32)) dX7_average_57 (by decide) ?_
      refine tr_V.bd (fun c7 h8 => ?_)
      refine tr_V.callV (C_X7_fraction ((v3.toInt64 / (2 : Int64)) * ((M.1 1 10) + (1 : Int32)).toInt64) (3 : Int64) (1 : Int32) M _ h8) yk_X7_fraction iv_X7_fraction ml_X7_341 shM_1 rfl ⟨rfl, Nat.le_of_ble_eq_true rfl⟩ rfl (Nat.le_of_ble_eq_true rfl) rfl dX7_average_58 ?_
      exact tr_V.iret dX7_average_61 rfl (fun h => h)
abbrev xX7_offBits : tr_X := (cX7_offBits, 3, RX7, (some .int), 2, shM, 24)
theorem cw_X7_offBits : Cond.code yX7_offBits cX7_offBits 3 (some .int) ∈ tr_tbl := tr_in 1760 (by decide +kernel) rfl
theorem yk_X7_offBits : tr_yk yX7_offBits (xX7_offBits) 0 := ⟨cw_X7_offBits, in_X7, ⟨by decide +kernel, by decide +kernel, by decide +kernel⟩, Nat.le_of_ble_eq_true rfl⟩
theorem iv_X7_offBits : Cond.instanceMethod yX7_offBits ∈ tr_tbl ∧ Cond.selects (yX7_offBits).cls yX7_offBits yX7_offBits ∈ tr_tbl := ⟨tr_in 1759 (by decide +kernel) rfl, tr_in 125 (by decide +kernel) rfl⟩
def mX7_offBits_l4 (M : tr_M) (s1 : Int32 × Int32) : Option ((Int32 × Int32) ⊕ (Int32)) :=
  if s1.2 < (M.1 1 12) then (
    Option.bind (mX7_ruleAt s1.2 (4 : Int32) M) (fun c2 =>
    some (.inl ((s1.1 ||| (c2 <<< (s1.2 &&& 31))), (s1.2 + (1 : Int32))))
    )
  ) else (
    some (.inr s1.1)
  )
def mX7_offBits  (M : tr_M) : Option (Int32) :=
  tr_loop (mX7_offBits_l4 M) ((0 : Int32), (0 : Int32))
set_option maxRecDepth 100000 in
set_option maxHeartbeats 4000000 in
theorem C_X7_offBits  (M : tr_M) (r : Int32) (h : mX7_offBits M = some r) : tr_I yX7_offBits (xX7_offBits) [.ref 1] M (some (.int r)) M := by
  refine tr_I.of (Z := fun q : Int32 => (some (.int r) : Option Value) = some (.int q) ∧ M = M) pn_X7 rfl gdM (Nat.le_of_ble_eq_true rfl) (fun Wt => ?_) h ⟨rfl, rfl⟩
  unfold mX7_offBits
  refine tr_V.iconst (v := (0 : Int32)) dX7_offBits_0 (by decide) ?_
  refine tr_V.istore_n (i := 1) dX7_offBits_1 rfl (Nat.le_of_ble_eq_true rfl) rfl ?_
  refine tr_V.iconst (v := (0 : Int32)) dX7_offBits_2 (by decide) ?_
  refine tr_V.istore_n (i := 2) dX7_offBits_3 rfl (Nat.le_of_ble_eq_true rfl) rfl ?_
  refine tr_V.loop (σ := Int32 × Int32) (step := mX7_offBits_l4 M) (L := fun s1 => [(0, some (.ref 1)), (1, some (.int s1.1)), (2, some (.int s1.2))]) (Mf := fun s1 => M) ?_ ((0 : Int32), (0 : Int32)) ⟨rfl, rfl, rfl, trivial⟩
  intro s1
  refine tr_V.iload_n (i := 2) dX7_offBits_4 rfl rfl ?_
  refine tr_V.aload_n (i := 0) dX7_offBits_5 rfl rfl ?_
  refine tr_V.getI fl_X7_160 shM_1 rfl dX7_offBits_6 ?_
  refine tr_V.icmp_ge (tgt := 29) dX7_offBits_9 (by decide) ?_ ?_
  · refine tr_V.iload_n (i := 1) dX7_offBits_12 rfl rfl ?_
    refine tr_V.aload_n (i := 0) dX7_offBits_13 rfl rfl ?_
    refine tr_V.iload_n (i := 2) dX7_offBits_14 rfl rfl ?_
    refine tr_V.iconst (v := (4 : Int32)) dX7_offBits_15 (by decide) ?_
    refine tr_V.bd (fun c2 h3 => ?_)
    refine tr_V.callV (C_X7_ruleAt s1.2 (4 : Int32) M _ h3) yk_X7_ruleAt iv_X7_ruleAt ml_X7_180 shM_1 rfl ⟨rfl, Nat.le_of_ble_eq_true rfl⟩ rfl (Nat.le_of_ble_eq_true rfl) rfl dX7_offBits_16 ?_
    refine tr_V.iload_n (i := 2) dX7_offBits_19 rfl rfl ?_
    refine tr_V.ishl dX7_offBits_20 ?_
    refine tr_V.ior dX7_offBits_21 ?_
    refine tr_V.istore_n (i := 1) dX7_offBits_22 rfl (Nat.le_of_ble_eq_true rfl) rfl ?_
    refine tr_V.iinc (cst := (1 : Int32)) dX7_offBits_23 rfl (by decide) rfl ?_
    refine tr_V.goto (tgt := 4) dX7_offBits_26 (by decide) ?_
    exact tr_V.to (fun h => h) ⟨rfl, rfl, rfl, trivial⟩
  · refine tr_V.iload_n (i := 1) dX7_offBits_29 rfl rfl ?_
    exact tr_V.iret dX7_offBits_30 rfl (fun h => h)
abbrev xX7_image : tr_X := (cX7_image, 6, RX7, (some .int), 3, shM, 24)
theorem cw_X7_image : Cond.code yX7_image cX7_image 6 (some .int) ∈ tr_tbl := tr_in 1756 (by decide +kernel) rfl
theorem yk_X7_image : tr_yk yX7_image (xX7_image) 1 := ⟨cw_X7_image, in_X7, ⟨by decide +kernel, by decide +kernel, by decide +kernel⟩, Nat.le_of_ble_eq_true rfl⟩
theorem iv_X7_image : Cond.instanceMethod yX7_image ∈ tr_tbl ∧ Cond.selects (yX7_image).cls yX7_image yX7_image ∈ tr_tbl := ⟨tr_in 1754 (by decide +kernel) rfl, tr_in 1755 (by decide +kernel) rfl⟩
def mX7_image_l54 (s8 : Int32 × Int32 × tr_M) (s9 : Int32 × Int32 × tr_M) : Option ((Int32 × Int32 × tr_M) ⊕ ((Int32 × Int32 × tr_M) ⊕ (Int32 × tr_M))) :=
  if s9.2.1 < (s9.2.2.1 1 10) then (
    Option.bind (mX7_weight s8.2.1 s9.2.1 s9.2.2) (fun c10 =>
    Option.bind (tr_wr 360 s9.2.2 4 s9.1 c10) (fun M12 =>
    some (.inl ((s9.1 + (1 : Int32)), (s9.2.1 + (1 : Int32)), M12))
    )
    )
  ) else (
    some (.inr (.inl (s9.1, (s8.2.1 + (1 : Int32)), s9.2.2)))
  )
def mX7_image_l39  (s8 : Int32 × Int32 × tr_M) : Option ((Int32 × Int32 × tr_M) ⊕ (Int32 × tr_M)) :=
  if s8.2.1 < (s8.2.2.1 1 10) then (
    tr_loop (mX7_image_l54 s8) (s8.1, (s8.2.1 + (1 : Int32)), s8.2.2)
  ) else (
    some (.inr (s8.1, s8.2.2))
  )
def mX7_image (p1 : Int32) (M : tr_M) : Option (Int32 × tr_M) :=
  Option.bind (mX7_isRow p1) (fun c1 =>
  if c1 = 0 then (
    some ((-1 : Int32), M)
  ) else (
    Option.bind (some ((((M.1 1 10) * ((M.1 1 10) - (1 : Int32))) / (2 : Int32)) + (1 : Int32))) (fun x3 =>
    Option.bind (mX7_clear p1 x3 M) (fun c5 =>
    Option.bind (show Option (Int32 × tr_M) from
      tr_loop (mX7_image_l39) (((60 : Int32) * p1), (0 : Int32), c5)
    ) (fun (v7 : Int32 × tr_M) =>
      Option.bind (mX7_offBits v7.2) (fun c14 =>
      Option.bind (tr_wr 360 v7.2 4 v7.1 c14) (fun M16 =>
      some (x3, M16)
      )
      )
    )
    )
    )
  )
  )
set_option maxRecDepth 100000 in
set_option maxHeartbeats 4000000 in
theorem C_X7_image (p1 : Int32) (M : tr_M) (r : Int32 × tr_M) (h : mX7_image p1 M = some r) : tr_I yX7_image (xX7_image) [.ref 1, .int p1] M (some (.int r.1)) r.2 := by
  refine tr_I.of (Z := fun q : Int32 × tr_M => (some (.int r.1) : Option Value) = some (.int q.1) ∧ r.2 = q.2) pn_X7 rfl gdM (Nat.le_of_ble_eq_true rfl) (fun Wt => ?_) h ⟨rfl, rfl⟩
  unfold mX7_image
  refine tr_V.iload_n (i := 1) dX7_image_0 rfl rfl ?_
  refine tr_V.bd (fun c1 h2 => ?_)
  refine tr_V.callS (C_X7_isRow p1 M _ h2) yk_X7_isRow sc_X7_isRow ml_X7_102 ⟨rfl, Nat.le_of_ble_eq_true rfl⟩ rfl (Nat.le_of_ble_eq_true rfl) rfl dX7_image_1 ?_
  refine tr_V.if_ne (tgt := 9) dX7_image_4 (by decide) ?_ ?_
  · refine tr_V.iconst (v := (-1 : Int32)) dX7_image_7 (by decide) ?_
    exact tr_V.iret dX7_image_8 rfl (fun h => h)
  · refine tr_V.aload_n (i := 0) dX7_image_9 rfl rfl ?_
    refine tr_V.getI fl_X7_157 shM_1 rfl dX7_image_10 ?_
    refine tr_V.aload_n (i := 0) dX7_image_13 rfl rfl ?_
    refine tr_V.getI fl_X7_157 shM_1 rfl dX7_image_14 ?_
    refine tr_V.iconst (v := (1 : Int32)) dX7_image_17 (by decide) ?_
    refine tr_V.isub dX7_image_18 ?_
    refine tr_V.imul dX7_image_19 ?_
    refine tr_V.iconst (v := (2 : Int32)) dX7_image_20 (by decide) ?_
    refine tr_V.idivL dX7_image_21 (by decide) ?_
    refine tr_V.iconst (v := (1 : Int32)) dX7_image_22 (by decide) ?_
    refine tr_V.iadd dX7_image_23 ?_
    refine tr_V.bd (fun x3 h4 => ?_)
    refine tr_V.nmI h4 ?_
    refine tr_V.istore_n (i := 2) dX7_image_24 rfl (Nat.le_of_ble_eq_true rfl) rfl ?_
    refine tr_V.aload_n (i := 0) dX7_image_25 rfl rfl ?_
    refine tr_V.iload_n (i := 1) dX7_image_26 rfl rfl ?_
    refine tr_V.iload_n (i := 2) dX7_image_27 rfl rfl ?_
    refine tr_V.bd (fun c5 h6 => ?_)
    refine tr_V.callV (C_X7_clear p1 x3 M _ h6) yk_X7_clear iv_X7_clear ml_X7_302 shM_1 rfl ⟨rfl, Nat.le_of_ble_eq_true rfl⟩ rfl (Nat.le_of_ble_eq_true rfl) rfl dX7_image_28 ?_
    refine tr_V.bipush (v := (60 : Int32)) dX7_image_31 (by decide) ?_
    refine tr_V.iload_n (i := 1) dX7_image_33 rfl rfl ?_
    refine tr_V.imul dX7_image_34 ?_
    refine tr_V.istore_n (i := 3) dX7_image_35 rfl (Nat.le_of_ble_eq_true rfl) rfl ?_
    refine tr_V.iconst (v := (0 : Int32)) dX7_image_36 (by decide) ?_
    refine tr_V.istore (i := 4) dX7_image_37 (Nat.le_of_ble_eq_true rfl) rfl ?_
    refine tr_V.seq (τ := Int32 × tr_M) (pc' := 92) (L := fun v7 => [(0, some (.ref 1)), (2, some (.int x3)), (3, some (.int v7.1))]) (S := fun v7 => []) (Mf := fun v7 => v7.2) ?_ ?_
    · refine tr_V.loop (σ := Int32 × Int32 × tr_M) (step := mX7_image_l39) (L := fun s8 => [(0, some (.ref 1)), (2, some (.int x3)), (3, some (.int s8.1)), (4, some (.int s8.2.1))]) (Mf := fun s8 => s8.2.2) ?_ (((60 : Int32) * p1), (0 : Int32), c5) ⟨rfl, rfl, rfl, rfl, trivial⟩
      intro s8
      refine tr_V.iload dX7_image_39 rfl ?_
      refine tr_V.aload_n (i := 0) dX7_image_41 rfl rfl ?_
      refine tr_V.getI fl_X7_157 shM_1 rfl dX7_image_42 ?_
      refine tr_V.icmp_ge (tgt := 92) dX7_image_45 (by decide) ?_ ?_
      · refine tr_V.iload dX7_image_48 rfl ?_
        refine tr_V.iconst (v := (1 : Int32)) dX7_image_50 (by decide) ?_
        refine tr_V.iadd dX7_image_51 ?_
        refine tr_V.istore (i := 5) dX7_image_52 (Nat.le_of_ble_eq_true rfl) rfl ?_
        refine tr_V.loop (σ := Int32 × Int32 × tr_M) (step := mX7_image_l54 s8) (L := fun s9 => [(0, some (.ref 1)), (2, some (.int x3)), (3, some (.int s9.1)), (4, some (.int s8.2.1)), (5, some (.int s9.2.1))]) (Mf := fun s9 => s9.2.2) ?_ (s8.1, (s8.2.1 + (1 : Int32)), s8.2.2) ⟨rfl, rfl, rfl, rfl, rfl, trivial⟩
        intro s9
        refine tr_V.iload dX7_image_54 rfl ?_
        refine tr_V.aload_n (i := 0) dX7_image_56 rfl rfl ?_
        refine tr_V.getI fl_X7_157 shM_1 rfl dX7_image_57 ?_
        refine tr_V.icmp_ge (tgt := 86) dX7_image_60 (by decide) ?_ ?_
        · refine tr_V.aload_n (i := 0) dX7_image_63 rfl rfl ?_
          refine tr_V.getR (Nat.succ_pos _) fl_X7_16 shM_1 rfl dX7_image_64 ?_
          refine tr_V.iload_n (i := 3) dX7_image_67 rfl rfl ?_
          refine tr_V.aload_n (i := 0) dX7_image_68 rfl rfl ?_
          refine tr_V.iload dX7_image_69 rfl ?_
          refine tr_V.iload dX7_image_71 rfl ?_
          refine tr_V.bd (fun c10 h11 => ?_)
          refine tr_V.callV (C_X7_weight s8.2.1 s9.2.1 s9.2.2 _ h11) yk_X7_weight iv_X7_weight ml_X7_166 shM_1 rfl ⟨rfl, Nat.le_of_ble_eq_true rfl⟩ rfl (Nat.le_of_ble_eq_true rfl) rfl dX7_image_73 ?_
          refine tr_V.bd (fun M12 h13 => ?_)
          refine tr_V.iast h13 shM_4 dX7_image_76 ?_
          refine tr_V.iinc (cst := (1 : Int32)) dX7_image_77 rfl (by decide) rfl ?_
          refine tr_V.iinc (cst := (1 : Int32)) dX7_image_80 rfl (by decide) rfl ?_
          refine tr_V.goto (tgt := 54) dX7_image_83 (by decide) ?_
          exact tr_V.to (fun h => h) ⟨rfl, rfl, rfl, rfl, rfl, trivial⟩
        · refine tr_V.iinc (cst := (1 : Int32)) dX7_image_86 rfl (by decide) rfl ?_
          refine tr_V.goto (tgt := 39) dX7_image_89 (by decide) ?_
          exact tr_V.to (fun h => h) ⟨rfl, rfl, rfl, rfl, trivial⟩
      · exact tr_V.to (fun h => h) ⟨rfl, rfl, rfl, trivial⟩
    · intro v7
      refine tr_V.aload_n (i := 0) dX7_image_92 rfl rfl ?_
      refine tr_V.getR (Nat.succ_pos _) fl_X7_16 shM_1 rfl dX7_image_93 ?_
      refine tr_V.iload_n (i := 3) dX7_image_96 rfl rfl ?_
      refine tr_V.aload_n (i := 0) dX7_image_97 rfl rfl ?_
      refine tr_V.bd (fun c14 h15 => ?_)
      refine tr_V.callV (C_X7_offBits v7.2 _ h15) yk_X7_offBits iv_X7_offBits ml_X7_388 shM_1 rfl ⟨rfl, Nat.le_of_ble_eq_true rfl⟩ rfl (Nat.le_of_ble_eq_true rfl) rfl dX7_image_98 ?_
      refine tr_V.bd (fun M16 h17 => ?_)
      refine tr_V.iast h17 shM_4 dX7_image_101 ?_
      refine tr_V.iload_n (i := 2) dX7_image_102 rfl rfl ?_
      exact tr_V.iret dX7_image_103 rfl (fun h => h)
abbrev xX7_on : tr_X := (cX7_on, 7, RX7, (some .int), 3, shM, 24)
theorem cw_X7_on : Cond.code yX7_on cX7_on 7 (some .int) ∈ tr_tbl := tr_in 1764 (by decide +kernel) rfl
theorem yk_X7_on : tr_yk yX7_on (xX7_on) 1 := ⟨cw_X7_on, in_X7, ⟨by decide +kernel, by decide +kernel, by decide +kernel⟩, Nat.le_of_ble_eq_true rfl⟩
theorem iv_X7_on : Cond.instanceMethod yX7_on ∈ tr_tbl ∧ Cond.selects (yX7_on).cls yX7_on yX7_on ∈ tr_tbl := ⟨tr_in 1762 (by decide +kernel) rfl, tr_in 1763 (by decide +kernel) rfl⟩
def mX7_on_l78 (p1 : Int32) (M : tr_M) (x7 : Int32) (s18 : Int32 × Int32) : Option ((Int32 × Int32) ⊕ (Int32)) :=
  if s18.2 < x7 then (
    if s18.1 = 0 then (
      some (.inl ((0 : Int32), (s18.2 + (1 : Int32))))
    ) else (
      Option.bind (mX7_rowAt p1 s18.2 M) (fun c19 =>
      if (mX7_in c19 (0 : Int32) (9 : Int32)) = 0 then (
        some (.inl ((0 : Int32), (s18.2 + (1 : Int32))))
      ) else (
        some (.inl ((1 : Int32), (s18.2 + (1 : Int32))))
      )
      )
    )
  ) else (
    some (.inr s18.1)
  )
def mX7_on_l147 (p1 : Int32) (s26 : Int32 × Int32 × tr_M) (s27 : Int32 × Int32 × tr_M) : Option ((Int32 × Int32 × tr_M) ⊕ ((Int32 × Int32 × tr_M) ⊕ (tr_M))) :=
  if s27.2.1 < (s27.2.2.1 1 10) then (
    Option.bind (mX7_rowAt p1 s27.1 s27.2.2) (fun c28 =>
    Option.bind (mX7_layTie s26.2.1 s27.2.1 c28 s27.2.2) (fun c30 =>
    some (.inl ((s27.1 + (1 : Int32)), (s27.2.1 + (1 : Int32)), c30))
    )
    )
  ) else (
    some (.inr (.inl (s27.1, (s26.2.1 + (1 : Int32)), s27.2.2)))
  )
def mX7_on_l132 (p1 : Int32) (s26 : Int32 × Int32 × tr_M) : Option ((Int32 × Int32 × tr_M) ⊕ (tr_M)) :=
  if s26.2.1 < (s26.2.2.1 1 10) then (
    tr_loop (mX7_on_l147 p1 s26) (s26.1, (s26.2.1 + (1 : Int32)), s26.2.2)
  ) else (
    some (.inr s26.2.2)
  )
def mX7_on (p1 : Int32) (M : tr_M) : Option (Int32 × tr_M) :=
  Option.bind (mX7_isRow p1) (fun c1 =>
  if c1 = 0 then (
    some ((-1 : Int32), M)
  ) else (
    Option.bind (tr_rd 6 M 3 p1) (fun a3 =>
    if a3 < 0 then (
      Option.bind (mX7_meets (1 : Int32) M) (fun c5 =>
      some (c5.1, c5.2)
      )
    ) else (
      Option.bind (some (((M.1 1 10) * ((M.1 1 10) - (1 : Int32))) / (2 : Int32))) (fun x7 =>
      Option.bind (tr_rd 6 M 3 p1) (fun a9 =>
      if a9 = (x7 + (1 : Int32)) then (
        Option.bind (mX7_rowAt p1 x7 M) (fun c11 =>
        Option.bind (some (mX7_in c11 (0 : Int32) (((1 : Int32) <<< ((M.1 1 12) &&& 31)) - (1 : Int32)))) (fun x15 =>
        Option.bind (show Option (Int32) from
          tr_loop (mX7_on_l78 p1 M x7) (x15, (0 : Int32))
        ) (fun (v17 : Int32) =>
          if v17 = 0 then (
            Option.bind (mX7_meets (3 : Int32) M) (fun c23 =>
            some (c23.1, c23.2)
            )
          ) else (
            Option.bind (show Option (tr_M) from
              tr_loop (mX7_on_l132 p1) ((0 : Int32), (0 : Int32), M)
            ) (fun (v25 : tr_M) =>
              Option.bind (mX7_rowAt p1 x7 v25) (fun c32 =>
              Option.bind (mX7_layOff c32 v25) (fun c34 =>
              some ((1 : Int32), c34)
              )
              )
            )
          )
        )
        )
        )
      ) else (
        Option.bind (mX7_meets (5 : Int32) M) (fun c36 =>
        some (c36.1, c36.2)
        )
      )
      )
      )
    )
    )
  )
  )
set_option maxRecDepth 100000 in
set_option maxHeartbeats 4000000 in
theorem C_X7_on (p1 : Int32) (M : tr_M) (r : Int32 × tr_M) (h : mX7_on p1 M = some r) : tr_I yX7_on (xX7_on) [.ref 1, .int p1] M (some (.int r.1)) r.2 := by
  refine tr_I.of (Z := fun q : Int32 × tr_M => (some (.int r.1) : Option Value) = some (.int q.1) ∧ r.2 = q.2) pn_X7 rfl gdM (Nat.le_of_ble_eq_true rfl) (fun Wt => ?_) h ⟨rfl, rfl⟩
  unfold mX7_on
  refine tr_V.iload_n (i := 1) dX7_on_0 rfl rfl ?_
  refine tr_V.bd (fun c1 h2 => ?_)
  refine tr_V.callS (C_X7_isRow p1 M _ h2) yk_X7_isRow sc_X7_isRow ml_X7_102 ⟨rfl, Nat.le_of_ble_eq_true rfl⟩ rfl (Nat.le_of_ble_eq_true rfl) rfl dX7_on_1 ?_
  refine tr_V.if_ne (tgt := 9) dX7_on_4 (by decide) ?_ ?_
  · refine tr_V.iconst (v := (-1 : Int32)) dX7_on_7 (by decide) ?_
    exact tr_V.iret dX7_on_8 rfl (fun h => h)
  · refine tr_V.aload_n (i := 0) dX7_on_9 rfl rfl ?_
    refine tr_V.getR (Nat.succ_pos _) fl_X7_13 shM_1 rfl dX7_on_10 ?_
    refine tr_V.iload_n (i := 1) dX7_on_13 rfl rfl ?_
    refine tr_V.bd (fun a3 h4 => ?_)
    refine tr_V.iald h4 shM_3 dX7_on_14 ?_
    refine tr_V.if_ge (tgt := 24) dX7_on_15 (by decide) ?_ ?_
    · refine tr_V.aload_n (i := 0) dX7_on_18 rfl rfl ?_
      refine tr_V.iconst (v := (1 : Int32)) dX7_on_19 (by decide) ?_
      refine tr_V.bd (fun c5 h6 => ?_)
      refine tr_V.callV (C_X7_meets (1 : Int32) M _ h6) yk_X7_meets iv_X7_meets ml_X7_106 shM_1 rfl ⟨rfl, Nat.le_of_ble_eq_true rfl⟩ rfl (Nat.le_of_ble_eq_true rfl) rfl dX7_on_20 ?_
      exact tr_V.iret dX7_on_23 rfl (fun h => h)
    · refine tr_V.aload_n (i := 0) dX7_on_24 rfl rfl ?_
      refine tr_V.getI fl_X7_157 shM_1 rfl dX7_on_25 ?_
      refine tr_V.aload_n (i := 0) dX7_on_28 rfl rfl ?_
      refine tr_V.getI fl_X7_157 shM_1 rfl dX7_on_29 ?_
      refine tr_V.iconst (v := (1 : Int32)) dX7_on_32 (by decide) ?_
      refine tr_V.isub dX7_on_33 ?_
      refine tr_V.imul dX7_on_34 ?_
      refine tr_V.iconst (v := (2 : Int32)) dX7_on_35 (by decide) ?_
      refine tr_V.idivL dX7_on_36 (by decide) ?_
      refine tr_V.bd (fun x7 h8 => ?_)
      refine tr_V.nmI h8 ?_
      refine tr_V.istore_n (i := 2) dX7_on_37 rfl (Nat.le_of_ble_eq_true rfl) rfl ?_
      refine tr_V.aload_n (i := 0) dX7_on_38 rfl rfl ?_
      refine tr_V.getR (Nat.succ_pos _) fl_X7_13 shM_1 rfl dX7_on_39 ?_
      refine tr_V.iload_n (i := 1) dX7_on_42 rfl rfl ?_
      refine tr_V.bd (fun a9 h10 => ?_)
      refine tr_V.iald h10 shM_3 dX7_on_43 ?_
      refine tr_V.iload_n (i := 2) dX7_on_44 rfl rfl ?_
      refine tr_V.iconst (v := (1 : Int32)) dX7_on_45 (by decide) ?_
      refine tr_V.iadd dX7_on_46 ?_
      refine tr_V.icmp_eq (tgt := 56) dX7_on_47 (by decide) ?_ ?_
      · refine tr_V.aload_n (i := 0) dX7_on_56 rfl rfl ?_
        refine tr_V.iload_n (i := 1) dX7_on_57 rfl rfl ?_
        refine tr_V.iload_n (i := 2) dX7_on_58 rfl rfl ?_
        refine tr_V.bd (fun c11 h12 => ?_)
        refine tr_V.callV (C_X7_rowAt p1 x7 M _ h12) yk_X7_rowAt iv_X7_rowAt ml_X7_110 shM_1 rfl ⟨rfl, Nat.le_of_ble_eq_true rfl⟩ rfl (Nat.le_of_ble_eq_true rfl) rfl dX7_on_59 ?_
        refine tr_V.iconst (v := (0 : Int32)) dX7_on_62 (by decide) ?_
        refine tr_V.iconst (v := (1 : Int32)) dX7_on_63 (by decide) ?_
        refine tr_V.aload_n (i := 0) dX7_on_64 rfl rfl ?_
        refine tr_V.getI fl_X7_160 shM_1 rfl dX7_on_65 ?_
        refine tr_V.ishl dX7_on_68 ?_
        refine tr_V.iconst (v := (1 : Int32)) dX7_on_69 (by decide) ?_
        refine tr_V.isub dX7_on_70 ?_
        refine tr_V.callS (C_X7_in c11 (0 : Int32) (((1 : Int32) <<< ((M.1 1 12) &&& 31)) - (1 : Int32)) M) yk_X7_in sc_X7_in ml_X7_92 ⟨rfl, Nat.le_of_ble_eq_true rfl⟩ rfl (Nat.le_of_ble_eq_true rfl) rfl dX7_on_71 ?_
        refine tr_V.bd (fun x15 h16 => ?_)
        refine tr_V.nmI h16 ?_
        refine tr_V.istore_n (i := 3) dX7_on_74 rfl (Nat.le_of_ble_eq_true rfl) rfl ?_
        refine tr_V.iconst (v := (0 : Int32)) dX7_on_75 (by decide) ?_
        refine tr_V.istore (i := 4) dX7_on_76 (Nat.le_of_ble_eq_true rfl) rfl ?_
        refine tr_V.seq (τ := Int32) (pc' := 116) (L := fun v17 => [(0, some (.ref 1)), (1, some (.int p1)), (2, some (.int x7)), (3, some (.int v17))]) (S := fun v17 => []) (Mf := fun v17 => M) ?_ ?_
        · refine tr_V.loop (σ := Int32 × Int32) (step := mX7_on_l78 p1 M x7) (L := fun s18 => [(0, some (.ref 1)), (1, some (.int p1)), (2, some (.int x7)), (3, some (.int s18.1)), (4, some (.int s18.2))]) (Mf := fun s18 => M) ?_ (x15, (0 : Int32)) ⟨rfl, rfl, rfl, rfl, rfl, trivial⟩
          intro s18
          refine tr_V.iload dX7_on_78 rfl ?_
          refine tr_V.iload_n (i := 2) dX7_on_80 rfl rfl ?_
          refine tr_V.icmp_ge (tgt := 116) dX7_on_81 (by decide) ?_ ?_
          · refine tr_V.iload_n (i := 3) dX7_on_84 rfl rfl ?_
            refine tr_V.if_eq (tgt := 108) dX7_on_85 (by decide) ?_ ?_
            · refine tr_V.iconst (v := (0 : Int32)) dX7_on_108 (by decide) ?_
              refine tr_V.istore_n (i := 3) dX7_on_109 rfl (Nat.le_of_ble_eq_true rfl) rfl ?_
              refine tr_V.iinc (cst := (1 : Int32)) dX7_on_110 rfl (by decide) rfl ?_
              refine tr_V.goto (tgt := 78) dX7_on_113 (by decide) ?_
              exact tr_V.to (fun h => h) ⟨rfl, rfl, rfl, rfl, rfl, trivial⟩
            · refine tr_V.aload_n (i := 0) dX7_on_88 rfl rfl ?_
              refine tr_V.iload_n (i := 1) dX7_on_89 rfl rfl ?_
              refine tr_V.iload dX7_on_90 rfl ?_
              refine tr_V.bd (fun c19 h20 => ?_)
              refine tr_V.callV (C_X7_rowAt p1 s18.2 M _ h20) yk_X7_rowAt iv_X7_rowAt ml_X7_110 shM_1 rfl ⟨rfl, Nat.le_of_ble_eq_true rfl⟩ rfl (Nat.le_of_ble_eq_true rfl) rfl dX7_on_92 ?_
              refine tr_V.iconst (v := (0 : Int32)) dX7_on_95 (by decide) ?_
              refine tr_V.bipush (v := (9 : Int32)) dX7_on_96 (by decide) ?_
              refine tr_V.callS (C_X7_in c19 (0 : Int32) (9 : Int32) M) yk_X7_in sc_X7_in ml_X7_92 ⟨rfl, Nat.le_of_ble_eq_true rfl⟩ rfl (Nat.le_of_ble_eq_true rfl) rfl dX7_on_98 ?_
              refine tr_V.if_eq (tgt := 108) dX7_on_101 (by decide) ?_ ?_
              · refine tr_V.iconst (v := (0 : Int32)) dX7_on_108 (by decide) ?_
                refine tr_V.istore_n (i := 3) dX7_on_109 rfl (Nat.le_of_ble_eq_true rfl) rfl ?_
                refine tr_V.iinc (cst := (1 : Int32)) dX7_on_110 rfl (by decide) rfl ?_
                refine tr_V.goto (tgt := 78) dX7_on_113 (by decide) ?_
                exact tr_V.to (fun h => h) ⟨rfl, rfl, rfl, rfl, rfl, trivial⟩
              · refine tr_V.iconst (v := (1 : Int32)) dX7_on_104 (by decide) ?_
                refine tr_V.goto (tgt := 109) dX7_on_105 (by decide) ?_
                refine tr_V.istore_n (i := 3) dX7_on_109 rfl (Nat.le_of_ble_eq_true rfl) rfl ?_
                refine tr_V.iinc (cst := (1 : Int32)) dX7_on_110 rfl (by decide) rfl ?_
                refine tr_V.goto (tgt := 78) dX7_on_113 (by decide) ?_
                exact tr_V.to (fun h => h) ⟨rfl, rfl, rfl, rfl, rfl, trivial⟩
          · exact tr_V.to (fun h => h) ⟨rfl, rfl, rfl, rfl, trivial⟩
        · intro v17
          refine tr_V.iload_n (i := 3) dX7_on_116 rfl rfl ?_
          refine tr_V.if_ne (tgt := 126) dX7_on_117 (by decide) ?_ ?_
          · refine tr_V.aload_n (i := 0) dX7_on_120 rfl rfl ?_
            refine tr_V.iconst (v := (3 : Int32)) dX7_on_121 (by decide) ?_
            refine tr_V.bd (fun c23 h24 => ?_)
            refine tr_V.callV (C_X7_meets (3 : Int32) M _ h24) yk_X7_meets iv_X7_meets ml_X7_106 shM_1 rfl ⟨rfl, Nat.le_of_ble_eq_true rfl⟩ rfl (Nat.le_of_ble_eq_true rfl) rfl dX7_on_122 ?_
            exact tr_V.iret dX7_on_125 rfl (fun h => h)
          · refine tr_V.iconst (v := (0 : Int32)) dX7_on_126 (by decide) ?_
            refine tr_V.istore (i := 4) dX7_on_127 (Nat.le_of_ble_eq_true rfl) rfl ?_
            refine tr_V.iconst (v := (0 : Int32)) dX7_on_129 (by decide) ?_
            refine tr_V.istore (i := 5) dX7_on_130 (Nat.le_of_ble_eq_true rfl) rfl ?_
            refine tr_V.seq (τ := tr_M) (pc' := 186) (L := fun v25 => [(0, some (.ref 1)), (1, some (.int p1)), (2, some (.int x7))]) (S := fun v25 => []) (Mf := fun v25 => v25) ?_ ?_
            · refine tr_V.loop (σ := Int32 × Int32 × tr_M) (step := mX7_on_l132 p1) (L := fun s26 => [(0, some (.ref 1)), (1, some (.int p1)), (2, some (.int x7)), (4, some (.int s26.1)), (5, some (.int s26.2.1))]) (Mf := fun s26 => s26.2.2) ?_ ((0 : Int32), (0 : Int32), M) ⟨rfl, rfl, rfl, rfl, rfl, trivial⟩
              intro s26
              refine tr_V.iload dX7_on_132 rfl ?_
              refine tr_V.aload_n (i := 0) dX7_on_134 rfl rfl ?_
              refine tr_V.getI fl_X7_157 shM_1 rfl dX7_on_135 ?_
              refine tr_V.icmp_ge (tgt := 186) dX7_on_138 (by decide) ?_ ?_
              · refine tr_V.iload dX7_on_141 rfl ?_
                refine tr_V.iconst (v := (1 : Int32)) dX7_on_143 (by decide) ?_
                refine tr_V.iadd dX7_on_144 ?_
                refine tr_V.istore (i := 6) dX7_on_145 (Nat.le_of_ble_eq_true rfl) rfl ?_
                refine tr_V.loop (σ := Int32 × Int32 × tr_M) (step := mX7_on_l147 p1 s26) (L := fun s27 => [(0, some (.ref 1)), (1, some (.int p1)), (2, some (.int x7)), (4, some (.int s27.1)), (5, some (.int s26.2.1)), (6, some (.int s27.2.1))]) (Mf := fun s27 => s27.2.2) ?_ (s26.1, (s26.2.1 + (1 : Int32)), s26.2.2) ⟨rfl, rfl, rfl, rfl, rfl, rfl, trivial⟩
                intro s27
                refine tr_V.iload dX7_on_147 rfl ?_
                refine tr_V.aload_n (i := 0) dX7_on_149 rfl rfl ?_
                refine tr_V.getI fl_X7_157 shM_1 rfl dX7_on_150 ?_
                refine tr_V.icmp_ge (tgt := 180) dX7_on_153 (by decide) ?_ ?_
                · refine tr_V.aload_n (i := 0) dX7_on_156 rfl rfl ?_
                  refine tr_V.iload dX7_on_157 rfl ?_
                  refine tr_V.iload dX7_on_159 rfl ?_
                  refine tr_V.aload_n (i := 0) dX7_on_161 rfl rfl ?_
                  refine tr_V.iload_n (i := 1) dX7_on_162 rfl rfl ?_
                  refine tr_V.iload dX7_on_163 rfl ?_
                  refine tr_V.bd (fun c28 h29 => ?_)
                  refine tr_V.callV (C_X7_rowAt p1 s27.1 s27.2.2 _ h29) yk_X7_rowAt iv_X7_rowAt ml_X7_110 shM_1 rfl ⟨rfl, Nat.le_of_ble_eq_true rfl⟩ rfl (Nat.le_of_ble_eq_true rfl) rfl dX7_on_165 ?_
                  refine tr_V.bd (fun c30 h31 => ?_)
                  refine tr_V.callV (C_X7_layTie s26.2.1 s27.2.1 c28 s27.2.2 _ h31) yk_X7_layTie iv_X7_layTie ml_X7_169 shM_1 rfl ⟨rfl, Nat.le_of_ble_eq_true rfl⟩ rfl (Nat.le_of_ble_eq_true rfl) rfl dX7_on_168 ?_
                  refine tr_V.iinc (cst := (1 : Int32)) dX7_on_171 rfl (by decide) rfl ?_
                  refine tr_V.iinc (cst := (1 : Int32)) dX7_on_174 rfl (by decide) rfl ?_
                  refine tr_V.goto (tgt := 147) dX7_on_177 (by decide) ?_
                  exact tr_V.to (fun h => h) ⟨rfl, rfl, rfl, rfl, rfl, rfl, trivial⟩
                · refine tr_V.iinc (cst := (1 : Int32)) dX7_on_180 rfl (by decide) rfl ?_
                  refine tr_V.goto (tgt := 132) dX7_on_183 (by decide) ?_
                  exact tr_V.to (fun h => h) ⟨rfl, rfl, rfl, rfl, rfl, trivial⟩
              · exact tr_V.to (fun h => h) ⟨rfl, rfl, rfl, trivial⟩
            · intro v25
              refine tr_V.aload_n (i := 0) dX7_on_186 rfl rfl ?_
              refine tr_V.aload_n (i := 0) dX7_on_187 rfl rfl ?_
              refine tr_V.iload_n (i := 1) dX7_on_188 rfl rfl ?_
              refine tr_V.iload_n (i := 2) dX7_on_189 rfl rfl ?_
              refine tr_V.bd (fun c32 h33 => ?_)
              refine tr_V.callV (C_X7_rowAt p1 x7 v25 _ h33) yk_X7_rowAt iv_X7_rowAt ml_X7_110 shM_1 rfl ⟨rfl, Nat.le_of_ble_eq_true rfl⟩ rfl (Nat.le_of_ble_eq_true rfl) rfl dX7_on_190 ?_
              refine tr_V.bd (fun c34 h35 => ?_)
              refine tr_V.callV (C_X7_layOff c32 v25 _ h35) yk_X7_layOff iv_X7_layOff ml_X7_361 shM_1 rfl ⟨rfl, Nat.le_of_ble_eq_true rfl⟩ rfl (Nat.le_of_ble_eq_true rfl) rfl dX7_on_193 ?_
              refine tr_V.iconst (v := (1 : Int32)) dX7_on_196 (by decide) ?_
              exact tr_V.iret dX7_on_197 rfl (fun h => h)
      · refine tr_V.aload_n (i := 0) dX7_on_50 rfl rfl ?_
        refine tr_V.iconst (v := (5 : Int32)) dX7_on_51 (by decide) ?_
        refine tr_V.bd (fun c36 h37 => ?_)
        refine tr_V.callV (C_X7_meets (5 : Int32) M _ h37) yk_X7_meets iv_X7_meets ml_X7_106 shM_1 rfl ⟨rfl, Nat.le_of_ble_eq_true rfl⟩ rfl (Nat.le_of_ble_eq_true rfl) rfl dX7_on_52 ?_
        exact tr_V.iret dX7_on_55 rfl (fun h => h)
abbrev xX7_tieMany : tr_X := (cX7_tieMany, 3, RX7, (some .int), 3, shM, 24)
theorem cw_X7_tieMany : Cond.code yX7_tieMany cX7_tieMany 3 (some .int) ∈ tr_tbl := tr_in 1776 (by decide +kernel) rfl
theorem yk_X7_tieMany : tr_yk yX7_tieMany (xX7_tieMany) 0 := ⟨cw_X7_tieMany, in_X7, ⟨by decide +kernel, by decide +kernel, by decide +kernel⟩, Nat.le_of_ble_eq_true rfl⟩
theorem iv_X7_tieMany : Cond.instanceMethod yX7_tieMany ∈ tr_tbl ∧ Cond.selects (yX7_tieMany).cls yX7_tieMany yX7_tieMany ∈ tr_tbl := ⟨tr_in 1775 (by decide +kernel) rfl, tr_in 127 (by decide +kernel) rfl⟩
def mX7_tieMany_l4 (M : tr_M) (s1 : Int32 × Int32) : Option ((Int32 × Int32) ⊕ (Int32)) :=
  if s1.2 < (M.1 1 10) then (
    Option.bind (mX7_tiesOf s1.2 M) (fun c2 =>
    some (.inl ((s1.1 + c2), (s1.2 + (1 : Int32))))
    )
  ) else (
    some (.inr (s1.1 / (2 : Int32)))
  )
def mX7_tieMany  (M : tr_M) : Option (Int32) :=
  tr_loop (mX7_tieMany_l4 M) ((0 : Int32), (0 : Int32))
set_option maxRecDepth 100000 in
set_option maxHeartbeats 4000000 in
theorem C_X7_tieMany  (M : tr_M) (r : Int32) (h : mX7_tieMany M = some r) : tr_I yX7_tieMany (xX7_tieMany) [.ref 1] M (some (.int r)) M := by
  refine tr_I.of (Z := fun q : Int32 => (some (.int r) : Option Value) = some (.int q) ∧ M = M) pn_X7 rfl gdM (Nat.le_of_ble_eq_true rfl) (fun Wt => ?_) h ⟨rfl, rfl⟩
  unfold mX7_tieMany
  refine tr_V.iconst (v := (0 : Int32)) dX7_tieMany_0 (by decide) ?_
  refine tr_V.istore_n (i := 1) dX7_tieMany_1 rfl (Nat.le_of_ble_eq_true rfl) rfl ?_
  refine tr_V.iconst (v := (0 : Int32)) dX7_tieMany_2 (by decide) ?_
  refine tr_V.istore_n (i := 2) dX7_tieMany_3 rfl (Nat.le_of_ble_eq_true rfl) rfl ?_
  refine tr_V.loop (σ := Int32 × Int32) (step := mX7_tieMany_l4 M) (L := fun s1 => [(0, some (.ref 1)), (1, some (.int s1.1)), (2, some (.int s1.2))]) (Mf := fun s1 => M) ?_ ((0 : Int32), (0 : Int32)) ⟨rfl, rfl, rfl, trivial⟩
  intro s1
  refine tr_V.iload_n (i := 2) dX7_tieMany_4 rfl rfl ?_
  refine tr_V.aload_n (i := 0) dX7_tieMany_5 rfl rfl ?_
  refine tr_V.getI fl_X7_157 shM_1 rfl dX7_tieMany_6 ?_
  refine tr_V.icmp_ge (tgt := 26) dX7_tieMany_9 (by decide) ?_ ?_
  · refine tr_V.iload_n (i := 1) dX7_tieMany_12 rfl rfl ?_
    refine tr_V.aload_n (i := 0) dX7_tieMany_13 rfl rfl ?_
    refine tr_V.iload_n (i := 2) dX7_tieMany_14 rfl rfl ?_
    refine tr_V.bd (fun c2 h3 => ?_)
    refine tr_V.callV (C_X7_tiesOf s1.2 M _ h3) yk_X7_tiesOf iv_X7_tiesOf ml_X7_326 shM_1 rfl ⟨rfl, Nat.le_of_ble_eq_true rfl⟩ rfl (Nat.le_of_ble_eq_true rfl) rfl dX7_tieMany_15 ?_
    refine tr_V.iadd dX7_tieMany_18 ?_
    refine tr_V.istore_n (i := 1) dX7_tieMany_19 rfl (Nat.le_of_ble_eq_true rfl) rfl ?_
    refine tr_V.iinc (cst := (1 : Int32)) dX7_tieMany_20 rfl (by decide) rfl ?_
    refine tr_V.goto (tgt := 4) dX7_tieMany_23 (by decide) ?_
    exact tr_V.to (fun h => h) ⟨rfl, rfl, rfl, trivial⟩
  · refine tr_V.iload_n (i := 1) dX7_tieMany_26 rfl rfl ?_
    refine tr_V.iconst (v := (2 : Int32)) dX7_tieMany_27 (by decide) ?_
    refine tr_V.idivL dX7_tieMany_28 (by decide) ?_
    exact tr_V.iret dX7_tieMany_29 rfl (fun h => h)
abbrev xX7_counted : tr_X := (cX7_counted, 4, RX7, (some .int), 4, shM, 24)
theorem cw_X7_counted : Cond.code yX7_counted cX7_counted 4 (some .int) ∈ tr_tbl := tr_in 1772 (by decide +kernel) rfl
theorem yk_X7_counted : tr_yk yX7_counted (xX7_counted) 1 := ⟨cw_X7_counted, in_X7, ⟨by decide +kernel, by decide +kernel, by decide +kernel⟩, Nat.le_of_ble_eq_true rfl⟩
theorem iv_X7_counted : Cond.instanceMethod yX7_counted ∈ tr_tbl ∧ Cond.selects (yX7_counted).cls yX7_counted yX7_counted ∈ tr_tbl := ⟨tr_in 1771 (by decide +kernel) rfl, tr_in 126 (by decide +kernel) rfl⟩
def mX7_counted_l4 (p1 : Int32) (M : tr_M) (s2 : Int32 × Int32) : Option ((Int32 × Int32) ⊕ (Int32)) :=
  if s2.2 < (M.1 1 12) then (
    Option.bind (show Option ((Int32) ⊕ ((Int32 × Int32) ⊕ (Int32))) from
      if p1 = (3 : Int32) then (
        Option.bind (mX7_ruleAt s2.2 (0 : Int32) M) (fun c4 =>
        if (mX7_in c4 (1 : Int32) (2 : Int32)) = 0 then (
          some (.inl s2.2)
        ) else (
          some (.inr (.inl ((s2.1 + (1 : Int32)), (s2.2 + (1 : Int32)))))
        )
        )
      ) else (
        some (.inl s2.2)
      )
    ) (tr_el (fun (v3 : Int32) =>
      if p1 = (4 : Int32) then (
        Option.bind (mX7_ruleAt v3 (4 : Int32) M) (fun c8 =>
        if c8 = (1 : Int32) then (
          some (.inl ((s2.1 + (1 : Int32)), (v3 + (1 : Int32))))
        ) else (
          some (.inl ((s2.1 + (0 : Int32)), (v3 + (1 : Int32))))
        )
        )
      ) else (
        some (.inl ((s2.1 + (0 : Int32)), (v3 + (1 : Int32))))
      )
    ))
  ) else (
    some (.inr s2.1)
  )
def mX7_counted_l62 (p1 : Int32) (M : tr_M) (s11 : Int32 × Int32) : Option ((Int32 × Int32) ⊕ (Int32)) :=
  if s11.2 < (6 : Int32) then (
    if p1 = (5 : Int32) then (
      Option.bind (tr_rd 6 M 3 s11.2) (fun a12 =>
      if a12 < 0 then (
        some (.inl ((s11.1 + (0 : Int32)), (s11.2 + (1 : Int32))))
      ) else (
        some (.inl ((s11.1 + (1 : Int32)), (s11.2 + (1 : Int32))))
      )
      )
    ) else (
      some (.inl ((s11.1 + (0 : Int32)), (s11.2 + (1 : Int32))))
    )
  ) else (
    some (.inr s11.1)
  )
def mX7_counted_l98 (p1 : Int32) (M : tr_M) (s15 : Int32 × Int32) : Option ((Int32 × Int32) ⊕ (Int32)) :=
  if s15.2 < (4 : Int32) then (
    if p1 = (6 : Int32) then (
      Option.bind (tr_rd 4 M 6 s15.2) (fun a16 =>
      if a16 < 0 then (
        some (.inl ((s15.1 + (0 : Int32)), (s15.2 + (1 : Int32))))
      ) else (
        some (.inl ((s15.1 + (1 : Int32)), (s15.2 + (1 : Int32))))
      )
      )
    ) else (
      some (.inl ((s15.1 + (0 : Int32)), (s15.2 + (1 : Int32))))
    )
  ) else (
    some (.inr s15.1)
  )
def mX7_counted (p1 : Int32) (M : tr_M) : Option (Int32) :=
  Option.bind (show Option (Int32) from
    tr_loop (mX7_counted_l4 p1 M) ((0 : Int32), (0 : Int32))
  ) (fun (v1 : Int32) =>
    Option.bind (show Option (Int32) from
      tr_loop (mX7_counted_l62 p1 M) (v1, (0 : Int32))
    ) (fun (v10 : Int32) =>
      Option.bind (show Option (Int32) from
        tr_loop (mX7_counted_l98 p1 M) (v10, (0 : Int32))
      ) (fun (v14 : Int32) =>
        if p1 = 0 then (
          some (M.1 1 10)
        ) else (
          if p1 = (1 : Int32) then (
            Option.bind (mX7_tieMany M) (fun c18 =>
            some c18
            )
          ) else (
            if p1 = (2 : Int32) then (
              some (M.1 1 12)
            ) else (
              some v14
            )
          )
        )
      )
    )
  )
set_option maxRecDepth 100000 in
set_option maxHeartbeats 4000000 in
theorem C_X7_counted (p1 : Int32) (M : tr_M) (r : Int32) (h : mX7_counted p1 M = some r) : tr_I yX7_counted (xX7_counted) [.ref 1, .int p1] M (some (.int r)) M := by
  refine tr_I.of (Z := fun q : Int32 => (some (.int r) : Option Value) = some (.int q) ∧ M = M) pn_X7 rfl gdM (Nat.le_of_ble_eq_true rfl) (fun Wt => ?_) h ⟨rfl, rfl⟩
  unfold mX7_counted
  refine tr_V.iconst (v := (0 : Int32)) dX7_counted_0 (by decide) ?_
  refine tr_V.istore_n (i := 2) dX7_counted_1 rfl (Nat.le_of_ble_eq_true rfl) rfl ?_
  refine tr_V.iconst (v := (0 : Int32)) dX7_counted_2 (by decide) ?_
  refine tr_V.istore_n (i := 3) dX7_counted_3 rfl (Nat.le_of_ble_eq_true rfl) rfl ?_
  refine tr_V.seq (τ := Int32) (pc' := 60) (L := fun v1 => [(0, some (.ref 1)), (1, some (.int p1)), (2, some (.int v1))]) (S := fun v1 => []) (Mf := fun v1 => M) ?_ ?_
  · refine tr_V.loop (σ := Int32 × Int32) (step := mX7_counted_l4 p1 M) (L := fun s2 => [(0, some (.ref 1)), (1, some (.int p1)), (2, some (.int s2.1)), (3, some (.int s2.2))]) (Mf := fun s2 => M) ?_ ((0 : Int32), (0 : Int32)) ⟨rfl, rfl, rfl, rfl, trivial⟩
    intro s2
    refine tr_V.iload_n (i := 3) dX7_counted_4 rfl rfl ?_
    refine tr_V.aload_n (i := 0) dX7_counted_5 rfl rfl ?_
    refine tr_V.getI fl_X7_160 shM_1 rfl dX7_counted_6 ?_
    refine tr_V.icmp_ge (tgt := 60) dX7_counted_9 (by decide) ?_ ?_
    · refine tr_V.iload_n (i := 2) dX7_counted_12 rfl rfl ?_
      refine tr_V.iload_n (i := 1) dX7_counted_13 rfl rfl ?_
      refine tr_V.iconst (v := (3 : Int32)) dX7_counted_14 (by decide) ?_
      refine tr_V.seqE (τ := Int32) (pc' := 32) (L := fun v3 => [(0, some (.ref 1)), (1, some (.int p1)), (3, some (.int v3))]) (S := fun v3 => [.int s2.1]) (Mf := fun v3 => M) ?_ ?_
      · refine tr_V.icmp_ne (tgt := 32) dX7_counted_15 (by decide) ?_ ?_
        · refine tr_V.aload_n (i := 0) dX7_counted_18 rfl rfl ?_
          refine tr_V.iload_n (i := 3) dX7_counted_19 rfl rfl ?_
          refine tr_V.iconst (v := (0 : Int32)) dX7_counted_20 (by decide) ?_
          refine tr_V.bd (fun c4 h5 => ?_)
          refine tr_V.callV (C_X7_ruleAt s2.2 (0 : Int32) M _ h5) yk_X7_ruleAt iv_X7_ruleAt ml_X7_180 shM_1 rfl ⟨rfl, Nat.le_of_ble_eq_true rfl⟩ rfl (Nat.le_of_ble_eq_true rfl) rfl dX7_counted_21 ?_
          refine tr_V.iconst (v := (1 : Int32)) dX7_counted_24 (by decide) ?_
          refine tr_V.iconst (v := (2 : Int32)) dX7_counted_25 (by decide) ?_
          refine tr_V.callS (C_X7_in c4 (1 : Int32) (2 : Int32) M) yk_X7_in sc_X7_in ml_X7_92 ⟨rfl, Nat.le_of_ble_eq_true rfl⟩ rfl (Nat.le_of_ble_eq_true rfl) rfl dX7_counted_26 ?_
          refine tr_V.if_ne (tgt := 47) dX7_counted_29 (by decide) ?_ ?_
          · exact tr_V.to (fun h => h) ⟨rfl, rfl, rfl, trivial⟩
          · refine tr_V.iconst (v := (1 : Int32)) dX7_counted_47 (by decide) ?_
            refine tr_V.goto (tgt := 52) dX7_counted_48 (by decide) ?_
            refine tr_V.iadd dX7_counted_52 ?_
            refine tr_V.istore_n (i := 2) dX7_counted_53 rfl (Nat.le_of_ble_eq_true rfl) rfl ?_
            refine tr_V.iinc (cst := (1 : Int32)) dX7_counted_54 rfl (by decide) rfl ?_
            refine tr_V.goto (tgt := 4) dX7_counted_57 (by decide) ?_
            exact tr_V.to (fun h => h) ⟨rfl, rfl, rfl, rfl, trivial⟩
        · exact tr_V.to (fun h => h) ⟨rfl, rfl, rfl, trivial⟩
      · intro v3
        refine tr_V.iload_n (i := 1) dX7_counted_32 rfl rfl ?_
        refine tr_V.iconst (v := (4 : Int32)) dX7_counted_33 (by decide) ?_
        refine tr_V.icmp_ne (tgt := 51) dX7_counted_34 (by decide) ?_ ?_
        · refine tr_V.aload_n (i := 0) dX7_counted_37 rfl rfl ?_
          refine tr_V.iload_n (i := 3) dX7_counted_38 rfl rfl ?_
          refine tr_V.iconst (v := (4 : Int32)) dX7_counted_39 (by decide) ?_
          refine tr_V.bd (fun c8 h9 => ?_)
          refine tr_V.callV (C_X7_ruleAt v3 (4 : Int32) M _ h9) yk_X7_ruleAt iv_X7_ruleAt ml_X7_180 shM_1 rfl ⟨rfl, Nat.le_of_ble_eq_true rfl⟩ rfl (Nat.le_of_ble_eq_true rfl) rfl dX7_counted_40 ?_
          refine tr_V.iconst (v := (1 : Int32)) dX7_counted_43 (by decide) ?_
          refine tr_V.icmp_ne (tgt := 51) dX7_counted_44 (by decide) ?_ ?_
          · refine tr_V.iconst (v := (1 : Int32)) dX7_counted_47 (by decide) ?_
            refine tr_V.goto (tgt := 52) dX7_counted_48 (by decide) ?_
            refine tr_V.iadd dX7_counted_52 ?_
            refine tr_V.istore_n (i := 2) dX7_counted_53 rfl (Nat.le_of_ble_eq_true rfl) rfl ?_
            refine tr_V.iinc (cst := (1 : Int32)) dX7_counted_54 rfl (by decide) rfl ?_
            refine tr_V.goto (tgt := 4) dX7_counted_57 (by decide) ?_
            exact tr_V.to (fun h => h) ⟨rfl, rfl, rfl, rfl, trivial⟩
          · refine tr_V.iconst (v := (0 : Int32)) dX7_counted_51 (by decide) ?_
            refine tr_V.iadd dX7_counted_52 ?_
            refine tr_V.istore_n (i := 2) dX7_counted_53 rfl (Nat.le_of_ble_eq_true rfl) rfl ?_
            refine tr_V.iinc (cst := (1 : Int32)) dX7_counted_54 rfl (by decide) rfl ?_
            refine tr_V.goto (tgt := 4) dX7_counted_57 (by decide) ?_
            exact tr_V.to (fun h => h) ⟨rfl, rfl, rfl, rfl, trivial⟩
        · refine tr_V.iconst (v := (0 : Int32)) dX7_counted_51 (by decide) ?_
          refine tr_V.iadd dX7_counted_52 ?_
          refine tr_V.istore_n (i := 2) dX7_counted_53 rfl (Nat.le_of_ble_eq_true rfl) rfl ?_
          refine tr_V.iinc (cst := (1 : Int32)) dX7_counted_54 rfl (by decide) rfl ?_
          refine tr_V.goto (tgt := 4) dX7_counted_57 (by decide) ?_
          exact tr_V.to (fun h => h) ⟨rfl, rfl, rfl, rfl, trivial⟩
    · exact tr_V.to (fun h => h) ⟨rfl, rfl, rfl, trivial⟩
  · intro v1
    refine tr_V.iconst (v := (0 : Int32)) dX7_counted_60 (by decide) ?_
    refine tr_V.istore_n (i := 3) dX7_counted_61 rfl (Nat.le_of_ble_eq_true rfl) rfl ?_
    refine tr_V.seq (τ := Int32) (pc' := 96) (L := fun v10 => [(0, some (.ref 1)), (1, some (.int p1)), (2, some (.int v10))]) (S := fun v10 => []) (Mf := fun v10 => M) ?_ ?_
    · refine tr_V.loop (σ := Int32 × Int32) (step := mX7_counted_l62 p1 M) (L := fun s11 => [(0, some (.ref 1)), (1, some (.int p1)), (2, some (.int s11.1)), (3, some (.int s11.2))]) (Mf := fun s11 => M) ?_ (v1, (0 : Int32)) ⟨rfl, rfl, rfl, rfl, trivial⟩
      intro s11
      refine tr_V.iload_n (i := 3) dX7_counted_62 rfl rfl ?_
      refine tr_V.bipush (v := (6 : Int32)) dX7_counted_63 (by decide) ?_
      refine tr_V.icmp_ge (tgt := 96) dX7_counted_65 (by decide) ?_ ?_
      · refine tr_V.iload_n (i := 2) dX7_counted_68 rfl rfl ?_
        refine tr_V.iload_n (i := 1) dX7_counted_69 rfl rfl ?_
        refine tr_V.iconst (v := (5 : Int32)) dX7_counted_70 (by decide) ?_
        refine tr_V.icmp_ne (tgt := 87) dX7_counted_71 (by decide) ?_ ?_
        · refine tr_V.aload_n (i := 0) dX7_counted_74 rfl rfl ?_
          refine tr_V.getR (Nat.succ_pos _) fl_X7_13 shM_1 rfl dX7_counted_75 ?_
          refine tr_V.iload_n (i := 3) dX7_counted_78 rfl rfl ?_
          refine tr_V.bd (fun a12 h13 => ?_)
          refine tr_V.iald h13 shM_3 dX7_counted_79 ?_
          refine tr_V.if_lt (tgt := 87) dX7_counted_80 (by decide) ?_ ?_
          · refine tr_V.iconst (v := (0 : Int32)) dX7_counted_87 (by decide) ?_
            refine tr_V.iadd dX7_counted_88 ?_
            refine tr_V.istore_n (i := 2) dX7_counted_89 rfl (Nat.le_of_ble_eq_true rfl) rfl ?_
            refine tr_V.iinc (cst := (1 : Int32)) dX7_counted_90 rfl (by decide) rfl ?_
            refine tr_V.goto (tgt := 62) dX7_counted_93 (by decide) ?_
            exact tr_V.to (fun h => h) ⟨rfl, rfl, rfl, rfl, trivial⟩
          · refine tr_V.iconst (v := (1 : Int32)) dX7_counted_83 (by decide) ?_
            refine tr_V.goto (tgt := 88) dX7_counted_84 (by decide) ?_
            refine tr_V.iadd dX7_counted_88 ?_
            refine tr_V.istore_n (i := 2) dX7_counted_89 rfl (Nat.le_of_ble_eq_true rfl) rfl ?_
            refine tr_V.iinc (cst := (1 : Int32)) dX7_counted_90 rfl (by decide) rfl ?_
            refine tr_V.goto (tgt := 62) dX7_counted_93 (by decide) ?_
            exact tr_V.to (fun h => h) ⟨rfl, rfl, rfl, rfl, trivial⟩
        · refine tr_V.iconst (v := (0 : Int32)) dX7_counted_87 (by decide) ?_
          refine tr_V.iadd dX7_counted_88 ?_
          refine tr_V.istore_n (i := 2) dX7_counted_89 rfl (Nat.le_of_ble_eq_true rfl) rfl ?_
          refine tr_V.iinc (cst := (1 : Int32)) dX7_counted_90 rfl (by decide) rfl ?_
          refine tr_V.goto (tgt := 62) dX7_counted_93 (by decide) ?_
          exact tr_V.to (fun h => h) ⟨rfl, rfl, rfl, rfl, trivial⟩
      · exact tr_V.to (fun h => h) ⟨rfl, rfl, rfl, trivial⟩
    · intro v10
      refine tr_V.iconst (v := (0 : Int32)) dX7_counted_96 (by decide) ?_
      refine tr_V.istore_n (i := 3) dX7_counted_97 rfl (Nat.le_of_ble_eq_true rfl) rfl ?_
      refine tr_V.seq (τ := Int32) (pc' := 132) (L := fun v14 => [(0, some (.ref 1)), (1, some (.int p1)), (2, some (.int v14))]) (S := fun v14 => []) (Mf := fun v14 => M) ?_ ?_
      · refine tr_V.loop (σ := Int32 × Int32) (step := mX7_counted_l98 p1 M) (L := fun s15 => [(0, some (.ref 1)), (1, some (.int p1)), (2, some (.int s15.1)), (3, some (.int s15.2))]) (Mf := fun s15 => M) ?_ (v10, (0 : Int32)) ⟨rfl, rfl, rfl, rfl, trivial⟩
        intro s15
        refine tr_V.iload_n (i := 3) dX7_counted_98 rfl rfl ?_
        refine tr_V.iconst (v := (4 : Int32)) dX7_counted_99 (by decide) ?_
        refine tr_V.icmp_ge (tgt := 132) dX7_counted_100 (by decide) ?_ ?_
        · refine tr_V.iload_n (i := 2) dX7_counted_103 rfl rfl ?_
          refine tr_V.iload_n (i := 1) dX7_counted_104 rfl rfl ?_
          refine tr_V.bipush (v := (6 : Int32)) dX7_counted_105 (by decide) ?_
          refine tr_V.icmp_ne (tgt := 123) dX7_counted_107 (by decide) ?_ ?_
          · refine tr_V.aload_n (i := 0) dX7_counted_110 rfl rfl ?_
            refine tr_V.getR (Nat.succ_pos _) fl_X7_22 shM_1 rfl dX7_counted_111 ?_
            refine tr_V.iload_n (i := 3) dX7_counted_114 rfl rfl ?_
            refine tr_V.bd (fun a16 h17 => ?_)
            refine tr_V.iald h17 shM_6 dX7_counted_115 ?_
            refine tr_V.if_lt (tgt := 123) dX7_counted_116 (by decide) ?_ ?_
            · refine tr_V.iconst (v := (0 : Int32)) dX7_counted_123 (by decide) ?_
              refine tr_V.iadd dX7_counted_124 ?_
              refine tr_V.istore_n (i := 2) dX7_counted_125 rfl (Nat.le_of_ble_eq_true rfl) rfl ?_
              refine tr_V.iinc (cst := (1 : Int32)) dX7_counted_126 rfl (by decide) rfl ?_
              refine tr_V.goto (tgt := 98) dX7_counted_129 (by decide) ?_
              exact tr_V.to (fun h => h) ⟨rfl, rfl, rfl, rfl, trivial⟩
            · refine tr_V.iconst (v := (1 : Int32)) dX7_counted_119 (by decide) ?_
              refine tr_V.goto (tgt := 124) dX7_counted_120 (by decide) ?_
              refine tr_V.iadd dX7_counted_124 ?_
              refine tr_V.istore_n (i := 2) dX7_counted_125 rfl (Nat.le_of_ble_eq_true rfl) rfl ?_
              refine tr_V.iinc (cst := (1 : Int32)) dX7_counted_126 rfl (by decide) rfl ?_
              refine tr_V.goto (tgt := 98) dX7_counted_129 (by decide) ?_
              exact tr_V.to (fun h => h) ⟨rfl, rfl, rfl, rfl, trivial⟩
          · refine tr_V.iconst (v := (0 : Int32)) dX7_counted_123 (by decide) ?_
            refine tr_V.iadd dX7_counted_124 ?_
            refine tr_V.istore_n (i := 2) dX7_counted_125 rfl (Nat.le_of_ble_eq_true rfl) rfl ?_
            refine tr_V.iinc (cst := (1 : Int32)) dX7_counted_126 rfl (by decide) rfl ?_
            refine tr_V.goto (tgt := 98) dX7_counted_129 (by decide) ?_
            exact tr_V.to (fun h => h) ⟨rfl, rfl, rfl, rfl, trivial⟩
        · exact tr_V.to (fun h => h) ⟨rfl, rfl, rfl, trivial⟩
      · intro v14
        refine tr_V.iload_n (i := 1) dX7_counted_132 rfl rfl ?_
        refine tr_V.if_ne (tgt := 143) dX7_counted_133 (by decide) ?_ ?_
        · refine tr_V.aload_n (i := 0) dX7_counted_136 rfl rfl ?_
          refine tr_V.getI fl_X7_157 shM_1 rfl dX7_counted_137 ?_
          refine tr_V.goto (tgt := 168) dX7_counted_140 (by decide) ?_
          exact tr_V.iret dX7_counted_168 rfl (fun h => h)
        · refine tr_V.iload_n (i := 1) dX7_counted_143 rfl rfl ?_
          refine tr_V.iconst (v := (1 : Int32)) dX7_counted_144 (by decide) ?_
          refine tr_V.icmp_ne (tgt := 155) dX7_counted_145 (by decide) ?_ ?_
          · refine tr_V.aload_n (i := 0) dX7_counted_148 rfl rfl ?_
            refine tr_V.bd (fun c18 h19 => ?_)
            refine tr_V.callV (C_X7_tieMany M _ h19) yk_X7_tieMany iv_X7_tieMany ml_X7_391 shM_1 rfl ⟨rfl, Nat.le_of_ble_eq_true rfl⟩ rfl (Nat.le_of_ble_eq_true rfl) rfl dX7_counted_149 ?_
            refine tr_V.goto (tgt := 168) dX7_counted_152 (by decide) ?_
            exact tr_V.iret dX7_counted_168 rfl (fun h => h)
          · refine tr_V.iload_n (i := 1) dX7_counted_155 rfl rfl ?_
            refine tr_V.iconst (v := (2 : Int32)) dX7_counted_156 (by decide) ?_
            refine tr_V.icmp_ne (tgt := 167) dX7_counted_157 (by decide) ?_ ?_
            · refine tr_V.aload_n (i := 0) dX7_counted_160 rfl rfl ?_
              refine tr_V.getI fl_X7_160 shM_1 rfl dX7_counted_161 ?_
              refine tr_V.goto (tgt := 168) dX7_counted_164 (by decide) ?_
              exact tr_V.iret dX7_counted_168 rfl (fun h => h)
            · refine tr_V.iload_n (i := 2) dX7_counted_167 rfl rfl ?_
              exact tr_V.iret dX7_counted_168 rfl (fun h => h)
abbrev xX7_count : tr_X := (cX7_count, 2, RX7, (some .int), 5, shM, 24)
theorem cw_X7_count : Cond.code yX7_count cX7_count 2 (some .int) ∈ tr_tbl := tr_in 1768 (by decide +kernel) rfl
theorem yk_X7_count : tr_yk yX7_count (xX7_count) 1 := ⟨cw_X7_count, in_X7, ⟨by decide +kernel, by decide +kernel, by decide +kernel⟩, Nat.le_of_ble_eq_true rfl⟩
theorem iv_X7_count : Cond.instanceMethod yX7_count ∈ tr_tbl ∧ Cond.selects (yX7_count).cls yX7_count yX7_count ∈ tr_tbl := ⟨tr_in 1766 (by decide +kernel) rfl, tr_in 1767 (by decide +kernel) rfl⟩
def mX7_count (p1 : Int32) (M : tr_M) : Option (Int32) :=
  if (mX7_in p1 (0 : Int32) (6 : Int32)) = 0 then (
    some (-1 : Int32)
  ) else (
    Option.bind (mX7_counted p1 M) (fun c3 =>
    some c3
    )
  )
set_option maxRecDepth 100000 in
set_option maxHeartbeats 4000000 in
theorem C_X7_count (p1 : Int32) (M : tr_M) (r : Int32) (h : mX7_count p1 M = some r) : tr_I yX7_count (xX7_count) [.ref 1, .int p1] M (some (.int r)) M := by
  refine tr_I.of (Z := fun q : Int32 => (some (.int r) : Option Value) = some (.int q) ∧ M = M) pn_X7 rfl gdM (Nat.le_of_ble_eq_true rfl) (fun Wt => ?_) h ⟨rfl, rfl⟩
  unfold mX7_count
  refine tr_V.iload_n (i := 1) dX7_count_0 rfl rfl ?_
  refine tr_V.iconst (v := (0 : Int32)) dX7_count_1 (by decide) ?_
  refine tr_V.bipush (v := (6 : Int32)) dX7_count_2 (by decide) ?_
  refine tr_V.callS (C_X7_in p1 (0 : Int32) (6 : Int32) M) yk_X7_in sc_X7_in ml_X7_92 ⟨rfl, Nat.le_of_ble_eq_true rfl⟩ rfl (Nat.le_of_ble_eq_true rfl) rfl dX7_count_4 ?_
  refine tr_V.if_eq (tgt := 18) dX7_count_7 (by decide) ?_ ?_
  · refine tr_V.iconst (v := (-1 : Int32)) dX7_count_18 (by decide) ?_
    exact tr_V.iret dX7_count_19 rfl (fun h => h)
  · refine tr_V.aload_n (i := 0) dX7_count_10 rfl rfl ?_
    refine tr_V.iload_n (i := 1) dX7_count_11 rfl rfl ?_
    refine tr_V.bd (fun c3 h4 => ?_)
    refine tr_V.callV (C_X7_counted p1 M _ h4) yk_X7_counted iv_X7_counted ml_X7_394 shM_1 rfl ⟨rfl, Nat.le_of_ble_eq_true rfl⟩ rfl (Nat.le_of_ble_eq_true rfl) rfl dX7_count_12 ?_
    refine tr_V.goto (tgt := 19) dX7_count_15 (by decide) ?_
    exact tr_V.iret dX7_count_19 rfl (fun h => h)
abbrev xX7_mix : tr_X := (cX7_mix, 3, RX7, (Option.none : Option Jvm.ClassFile.FieldType), 1, shM, 24)
theorem cw_X7_mix : Cond.code yX7_mix cX7_mix 3 (Option.none : Option Jvm.ClassFile.FieldType) ∈ tr_tbl := tr_in 1785 (by decide +kernel) rfl
theorem yk_X7_mix : tr_yk yX7_mix (xX7_mix) 1 := ⟨cw_X7_mix, in_X7, ⟨by decide +kernel, by decide +kernel, by decide +kernel⟩, Nat.le_of_ble_eq_true rfl⟩
theorem iv_X7_mix : Cond.instanceMethod yX7_mix ∈ tr_tbl ∧ Cond.selects (yX7_mix).cls yX7_mix yX7_mix ∈ tr_tbl := ⟨tr_in 1784 (by decide +kernel) rfl, tr_in 128 (by decide +kernel) rfl⟩
def mX7_mix (p1 : Int64) (M : tr_M) : Option (tr_M) :=
  Option.bind (some (tr_sl M 1 37 (((31 : Int64) * (M.2 1 37)) + p1))) (fun M1 =>
  some M1
  )
set_option maxRecDepth 100000 in
set_option maxHeartbeats 4000000 in
theorem C_X7_mix (p1 : Int64) (M M' : tr_M) (h : mX7_mix p1 M = some M') : tr_I yX7_mix (xX7_mix) [.ref 1, .long p1] M none M' := by
  refine tr_I.of (Z := fun q : tr_M => (none : Option Value) = none ∧ M' = q) pn_X7 rfl gdM (Nat.le_of_ble_eq_true rfl) (fun Wt => ?_) h ⟨rfl, rfl⟩
  unfold mX7_mix
  refine tr_V.aload_n (i := 0) dX7_mix_0 rfl rfl ?_
  refine tr_V.ldc2 ct_X7_397 dX7_mix_1 ?_
  refine tr_V.aload_n (i := 0) dX7_mix_4 rfl rfl ?_
  refine tr_V.getJ fl_X7_399 shM_1 rfl dX7_mix_5 ?_
  refine tr_V.lmul dX7_mix_8 ?_
  refine tr_V.lload_n (i := 1) dX7_mix_9 rfl rfl ?_
  refine tr_V.ladd dX7_mix_10 ?_
  refine tr_V.bd (fun M1 h2 => ?_)
  refine tr_V.putJ fl_X7_399 shM_1 rfl dX7_mix_11 h2 ?_
  exact tr_V.vret dX7_mix_14 rfl (fun h => h)
abbrev xX7_digest : tr_X := (cX7_digest, 3, RX7, (some .long), 5, shM, 24)
theorem cw_X7_digest : Cond.code yX7_digest cX7_digest 3 (some .long) ∈ tr_tbl := tr_in 1780 (by decide +kernel) rfl
theorem yk_X7_digest : tr_yk yX7_digest (xX7_digest) 0 := ⟨cw_X7_digest, in_X7, ⟨by decide +kernel, by decide +kernel, by decide +kernel⟩, Nat.le_of_ble_eq_true rfl⟩
theorem iv_X7_digest : Cond.instanceMethod yX7_digest ∈ tr_tbl ∧ Cond.selects (yX7_digest).cls yX7_digest yX7_digest ∈ tr_tbl := ⟨tr_in 1778 (by decide +kernel) rfl, tr_in 1779 (by decide +kernel) rfl⟩
def mX7_digest_l9  (s4 : Int32 × tr_M) : Option ((Int32 × tr_M) ⊕ (tr_M)) :=
  if s4.1 < (7 : Int32) then (
    Option.bind (mX7_counted s4.1 s4.2) (fun c5 =>
    Option.bind (mX7_mix c5.toInt64 s4.2) (fun c7 =>
    some (.inl ((s4.1 + (1 : Int32)), c7))
    )
    )
  ) else (
    some (.inr s4.2)
  )
def mX7_digest_l45 (s10 : Int32 × tr_M) (s11 : Int32 × tr_M) : Option ((Int32 × tr_M) ⊕ ((Int32 × tr_M) ⊕ (tr_M))) :=
  if s11.1 < (s11.2.1 1 10) then (
    Option.bind (mX7_weight s10.1 s11.1 s11.2) (fun c12 =>
    Option.bind (mX7_mix c12.toInt64 s11.2) (fun c14 =>
    some (.inl ((s11.1 + (1 : Int32)), c14))
    )
    )
  ) else (
    some (.inr (.inl ((s10.1 + (1 : Int32)), s11.2)))
  )
def mX7_digest_l33  (s10 : Int32 × tr_M) : Option ((Int32 × tr_M) ⊕ (tr_M)) :=
  if s10.1 < (s10.2.1 1 10) then (
    tr_loop (mX7_digest_l45 s10) ((s10.1 + (1 : Int32)), s10.2)
  ) else (
    some (.inr s10.2)
  )
def mX7_digest_l78  (s17 : Int32 × tr_M) : Option ((Int32 × tr_M) ⊕ (tr_M)) :=
  if s17.1 < ((5 : Int32) * (s17.2.1 1 12)) then (
    Option.bind (tr_rd 40 s17.2 9 s17.1) (fun a18 =>
    Option.bind (mX7_mix a18.toInt64 s17.2) (fun c20 =>
    some (.inl ((s17.1 + (1 : Int32)), c20))
    )
    )
  ) else (
    some (.inr s17.2)
  )
def mX7_digest_l126 (s23 : Int32 × tr_M) (s28 : Int32 × tr_M) : Option ((Int32 × tr_M) ⊕ ((Int32 × tr_M) ⊕ (tr_M))) :=
  Option.bind (tr_rd 6 s28.2 3 s23.1) (fun a29 =>
  if s28.1 < a29 then (
    Option.bind (mX7_rowAt s23.1 s28.1 s28.2) (fun c31 =>
    Option.bind (mX7_mix c31.toInt64 s28.2) (fun c33 =>
    some (.inl ((s28.1 + (1 : Int32)), c33))
    )
    )
  ) else (
    some (.inr (.inl ((s23.1 + (1 : Int32)), s28.2)))
  )
  )
def mX7_digest_l107  (s23 : Int32 × tr_M) : Option ((Int32 × tr_M) ⊕ (tr_M)) :=
  if s23.1 < (6 : Int32) then (
    Option.bind (tr_rd 6 s23.2 3 s23.1) (fun a24 =>
    Option.bind (mX7_mix a24.toInt64 s23.2) (fun c26 =>
    tr_loop (mX7_digest_l126 s23) ((0 : Int32), c26)
    )
    )
  ) else (
    some (.inr s23.2)
  )
def mX7_digest_l179 (s35 : Int32 × tr_M) (s40 : Int32 × tr_M) : Option ((Int32 × tr_M) ⊕ ((Int32 × tr_M) ⊕ (Int64 × tr_M))) :=
  Option.bind (tr_rd 4 s40.2 6 s35.1) (fun a41 =>
  if s40.1 < a41 then (
    Option.bind (mX7_byteAt s35.1 s40.1 s40.2) (fun c43 =>
    Option.bind (mX7_mix c43.toInt64 s40.2) (fun c45 =>
    some (.inl ((s40.1 + (1 : Int32)), c45))
    )
    )
  ) else (
    some (.inr (.inl ((s35.1 + (1 : Int32)), s40.2)))
  )
  )
def mX7_digest_l161  (s35 : Int32 × tr_M) : Option ((Int32 × tr_M) ⊕ (Int64 × tr_M)) :=
  if s35.1 < (4 : Int32) then (
    Option.bind (tr_rd 4 s35.2 6 s35.1) (fun a36 =>
    Option.bind (mX7_mix a36.toInt64 s35.2) (fun c38 =>
    tr_loop (mX7_digest_l179 s35) ((0 : Int32), c38)
    )
    )
  ) else (
    some (.inr ((s35.2.2 1 37), s35.2))
  )
def mX7_digest  (M : tr_M) : Option (Int64 × tr_M) :=
  Option.bind (some (tr_sl M 1 37 (17 : Int64))) (fun M1 =>
  Option.bind (show Option (tr_M) from
    tr_loop (mX7_digest_l9) ((0 : Int32), M1)
  ) (fun (v3 : tr_M) =>
    Option.bind (show Option (tr_M) from
      tr_loop (mX7_digest_l33) ((0 : Int32), v3)
    ) (fun (v9 : tr_M) =>
      Option.bind (show Option (tr_M) from
        tr_loop (mX7_digest_l78) ((0 : Int32), v9)
      ) (fun (v16 : tr_M) =>
        Option.bind (show Option (tr_M) from
          tr_loop (mX7_digest_l107) ((0 : Int32), v16)
        ) (fun (v22 : tr_M) =>
          tr_loop (mX7_digest_l161) ((0 : Int32), v22)
        )
      )
    )
  )
  )
set_option maxRecDepth 100000 in
set_option maxHeartbeats 4000000 in
theorem C_X7_digest  (M : tr_M) (r : Int64 × tr_M) (h : mX7_digest M = some r) : tr_I yX7_digest (xX7_digest) [.ref 1] M (some (.long r.1)) r.2 := by
  refine tr_I.of (Z := fun q : Int64 × tr_M => (some (.long r.1) : Option Value) = some (.long q.1) ∧ r.2 = q.2) pn_X7 rfl gdM (Nat.le_of_ble_eq_true rfl) (fun Wt => ?_) h ⟨rfl, rfl⟩
  unfold mX7_digest
  refine tr_V.aload_n (i := 0) dX7_digest_0 rfl rfl ?_
  refine tr_V.ldc2 ct_X7_402 dX7_digest_1 ?_
  refine tr_V.bd (fun M1 h2 => ?_)
  refine tr_V.putJ fl_X7_399 shM_1 rfl dX7_digest_4 h2 ?_
  refine tr_V.iconst (v := (0 : Int32)) dX7_digest_7 (by decide) ?_
  refine tr_V.istore_n (i := 1) dX7_digest_8 rfl (Nat.le_of_ble_eq_true rfl) rfl ?_
  refine tr_V.seq (τ := tr_M) (pc' := 31) (L := fun v3 => [(0, some (.ref 1))]) (S := fun v3 => []) (Mf := fun v3 => v3) ?_ ?_
  · refine tr_V.loop (σ := Int32 × tr_M) (step := mX7_digest_l9) (L := fun s4 => [(0, some (.ref 1)), (1, some (.int s4.1))]) (Mf := fun s4 => s4.2) ?_ ((0 : Int32), M1) ⟨rfl, rfl, trivial⟩
    intro s4
    refine tr_V.iload_n (i := 1) dX7_digest_9 rfl rfl ?_
    refine tr_V.bipush (v := (7 : Int32)) dX7_digest_10 (by decide) ?_
    refine tr_V.icmp_ge (tgt := 31) dX7_digest_12 (by decide) ?_ ?_
    · refine tr_V.aload_n (i := 0) dX7_digest_15 rfl rfl ?_
      refine tr_V.aload_n (i := 0) dX7_digest_16 rfl rfl ?_
      refine tr_V.iload_n (i := 1) dX7_digest_17 rfl rfl ?_
      refine tr_V.bd (fun c5 h6 => ?_)
      refine tr_V.callV (C_X7_counted s4.1 s4.2 _ h6) yk_X7_counted iv_X7_counted ml_X7_394 shM_1 rfl ⟨rfl, Nat.le_of_ble_eq_true rfl⟩ rfl (Nat.le_of_ble_eq_true rfl) rfl dX7_digest_18 ?_
      refine tr_V.i2l dX7_digest_21 ?_
      refine tr_V.bd (fun c7 h8 => ?_)
      refine tr_V.callV (C_X7_mix c5.toInt64 s4.2 _ h8) yk_X7_mix iv_X7_mix ml_X7_404 shM_1 rfl ⟨rfl, Nat.le_of_ble_eq_true rfl⟩ rfl (Nat.le_of_ble_eq_true rfl) rfl dX7_digest_22 ?_
      refine tr_V.iinc (cst := (1 : Int32)) dX7_digest_25 rfl (by decide) rfl ?_
      refine tr_V.goto (tgt := 9) dX7_digest_28 (by decide) ?_
      exact tr_V.to (fun h => h) ⟨rfl, rfl, trivial⟩
    · exact tr_V.to (fun h => h) ⟨rfl, trivial⟩
  · intro v3
    refine tr_V.iconst (v := (0 : Int32)) dX7_digest_31 (by decide) ?_
    refine tr_V.istore_n (i := 1) dX7_digest_32 rfl (Nat.le_of_ble_eq_true rfl) rfl ?_
    refine tr_V.seq (τ := tr_M) (pc' := 76) (L := fun v9 => [(0, some (.ref 1))]) (S := fun v9 => []) (Mf := fun v9 => v9) ?_ ?_
    · refine tr_V.loop (σ := Int32 × tr_M) (step := mX7_digest_l33) (L := fun s10 => [(0, some (.ref 1)), (1, some (.int s10.1))]) (Mf := fun s10 => s10.2) ?_ ((0 : Int32), v3) ⟨rfl, rfl, trivial⟩
      intro s10
      refine tr_V.iload_n (i := 1) dX7_digest_33 rfl rfl ?_
      refine tr_V.aload_n (i := 0) dX7_digest_34 rfl rfl ?_
      refine tr_V.getI fl_X7_157 shM_1 rfl dX7_digest_35 ?_
      refine tr_V.icmp_ge (tgt := 76) dX7_digest_38 (by decide) ?_ ?_
      · refine tr_V.iload_n (i := 1) dX7_digest_41 rfl rfl ?_
        refine tr_V.iconst (v := (1 : Int32)) dX7_digest_42 (by decide) ?_
        refine tr_V.iadd dX7_digest_43 ?_
        refine tr_V.istore_n (i := 2) dX7_digest_44 rfl (Nat.le_of_ble_eq_true rfl) rfl ?_
        refine tr_V.loop (σ := Int32 × tr_M) (step := mX7_digest_l45 s10) (L := fun s11 => [(0, some (.ref 1)), (1, some (.int s10.1)), (2, some (.int s11.1))]) (Mf := fun s11 => s11.2) ?_ ((s10.1 + (1 : Int32)), s10.2) ⟨rfl, rfl, rfl, trivial⟩
        intro s11
        refine tr_V.iload_n (i := 2) dX7_digest_45 rfl rfl ?_
        refine tr_V.aload_n (i := 0) dX7_digest_46 rfl rfl ?_
        refine tr_V.getI fl_X7_157 shM_1 rfl dX7_digest_47 ?_
        refine tr_V.icmp_ge (tgt := 70) dX7_digest_50 (by decide) ?_ ?_
        · refine tr_V.aload_n (i := 0) dX7_digest_53 rfl rfl ?_
          refine tr_V.aload_n (i := 0) dX7_digest_54 rfl rfl ?_
          refine tr_V.iload_n (i := 1) dX7_digest_55 rfl rfl ?_
          refine tr_V.iload_n (i := 2) dX7_digest_56 rfl rfl ?_
          refine tr_V.bd (fun c12 h13 => ?_)
          refine tr_V.callV (C_X7_weight s10.1 s11.1 s11.2 _ h13) yk_X7_weight iv_X7_weight ml_X7_166 shM_1 rfl ⟨rfl, Nat.le_of_ble_eq_true rfl⟩ rfl (Nat.le_of_ble_eq_true rfl) rfl dX7_digest_57 ?_
          refine tr_V.i2l dX7_digest_60 ?_
          refine tr_V.bd (fun c14 h15 => ?_)
          refine tr_V.callV (C_X7_mix c12.toInt64 s11.2 _ h15) yk_X7_mix iv_X7_mix ml_X7_404 shM_1 rfl ⟨rfl, Nat.le_of_ble_eq_true rfl⟩ rfl (Nat.le_of_ble_eq_true rfl) rfl dX7_digest_61 ?_
          refine tr_V.iinc (cst := (1 : Int32)) dX7_digest_64 rfl (by decide) rfl ?_
          refine tr_V.goto (tgt := 45) dX7_digest_67 (by decide) ?_
          exact tr_V.to (fun h => h) ⟨rfl, rfl, rfl, trivial⟩
        · refine tr_V.iinc (cst := (1 : Int32)) dX7_digest_70 rfl (by decide) rfl ?_
          refine tr_V.goto (tgt := 33) dX7_digest_73 (by decide) ?_
          exact tr_V.to (fun h => h) ⟨rfl, rfl, trivial⟩
      · exact tr_V.to (fun h => h) ⟨rfl, trivial⟩
    · intro v9
      refine tr_V.iconst (v := (0 : Int32)) dX7_digest_76 (by decide) ?_
      refine tr_V.istore_n (i := 1) dX7_digest_77 rfl (Nat.le_of_ble_eq_true rfl) rfl ?_
      refine tr_V.seq (τ := tr_M) (pc' := 105) (L := fun v16 => [(0, some (.ref 1))]) (S := fun v16 => []) (Mf := fun v16 => v16) ?_ ?_
      · refine tr_V.loop (σ := Int32 × tr_M) (step := mX7_digest_l78) (L := fun s17 => [(0, some (.ref 1)), (1, some (.int s17.1))]) (Mf := fun s17 => s17.2) ?_ ((0 : Int32), v9) ⟨rfl, rfl, trivial⟩
        intro s17
        refine tr_V.iload_n (i := 1) dX7_digest_78 rfl rfl ?_
        refine tr_V.iconst (v := (5 : Int32)) dX7_digest_79 (by decide) ?_
        refine tr_V.aload_n (i := 0) dX7_digest_80 rfl rfl ?_
        refine tr_V.getI fl_X7_160 shM_1 rfl dX7_digest_81 ?_
        refine tr_V.imul dX7_digest_84 ?_
        refine tr_V.icmp_ge (tgt := 105) dX7_digest_85 (by decide) ?_ ?_
        · refine tr_V.aload_n (i := 0) dX7_digest_88 rfl rfl ?_
          refine tr_V.aload_n (i := 0) dX7_digest_89 rfl rfl ?_
          refine tr_V.getR (Nat.succ_pos _) fl_X7_32 shM_1 rfl dX7_digest_90 ?_
          refine tr_V.iload_n (i := 1) dX7_digest_93 rfl rfl ?_
          refine tr_V.bd (fun a18 h19 => ?_)
          refine tr_V.iald h19 shM_9 dX7_digest_94 ?_
          refine tr_V.i2l dX7_digest_95 ?_
          refine tr_V.bd (fun c20 h21 => ?_)
          refine tr_V.callV (C_X7_mix a18.toInt64 s17.2 _ h21) yk_X7_mix iv_X7_mix ml_X7_404 shM_1 rfl ⟨rfl, Nat.le_of_ble_eq_true rfl⟩ rfl (Nat.le_of_ble_eq_true rfl) rfl dX7_digest_96 ?_
          refine tr_V.iinc (cst := (1 : Int32)) dX7_digest_99 rfl (by decide) rfl ?_
          refine tr_V.goto (tgt := 78) dX7_digest_102 (by decide) ?_
          exact tr_V.to (fun h => h) ⟨rfl, rfl, trivial⟩
        · exact tr_V.to (fun h => h) ⟨rfl, trivial⟩
      · intro v16
        refine tr_V.iconst (v := (0 : Int32)) dX7_digest_105 (by decide) ?_
        refine tr_V.istore_n (i := 1) dX7_digest_106 rfl (Nat.le_of_ble_eq_true rfl) rfl ?_
        refine tr_V.seq (τ := tr_M) (pc' := 159) (L := fun v22 => [(0, some (.ref 1))]) (S := fun v22 => []) (Mf := fun v22 => v22) ?_ ?_
        · refine tr_V.loop (σ := Int32 × tr_M) (step := mX7_digest_l107) (L := fun s23 => [(0, some (.ref 1)), (1, some (.int s23.1))]) (Mf := fun s23 => s23.2) ?_ ((0 : Int32), v16) ⟨rfl, rfl, trivial⟩
          intro s23
          refine tr_V.iload_n (i := 1) dX7_digest_107 rfl rfl ?_
          refine tr_V.bipush (v := (6 : Int32)) dX7_digest_108 (by decide) ?_
          refine tr_V.icmp_ge (tgt := 159) dX7_digest_110 (by decide) ?_ ?_
          · refine tr_V.aload_n (i := 0) dX7_digest_113 rfl rfl ?_
            refine tr_V.aload_n (i := 0) dX7_digest_114 rfl rfl ?_
            refine tr_V.getR (Nat.succ_pos _) fl_X7_13 shM_1 rfl dX7_digest_115 ?_
            refine tr_V.iload_n (i := 1) dX7_digest_118 rfl rfl ?_
            refine tr_V.bd (fun a24 h25 => ?_)
            refine tr_V.iald h25 shM_3 dX7_digest_119 ?_
            refine tr_V.i2l dX7_digest_120 ?_
            refine tr_V.bd (fun c26 h27 => ?_)
            refine tr_V.callV (C_X7_mix a24.toInt64 s23.2 _ h27) yk_X7_mix iv_X7_mix ml_X7_404 shM_1 rfl ⟨rfl, Nat.le_of_ble_eq_true rfl⟩ rfl (Nat.le_of_ble_eq_true rfl) rfl dX7_digest_121 ?_
            refine tr_V.iconst (v := (0 : Int32)) dX7_digest_124 (by decide) ?_
            refine tr_V.istore_n (i := 2) dX7_digest_125 rfl (Nat.le_of_ble_eq_true rfl) rfl ?_
            refine tr_V.loop (σ := Int32 × tr_M) (step := mX7_digest_l126 s23) (L := fun s28 => [(0, some (.ref 1)), (1, some (.int s23.1)), (2, some (.int s28.1))]) (Mf := fun s28 => s28.2) ?_ ((0 : Int32), c26) ⟨rfl, rfl, rfl, trivial⟩
            intro s28
            refine tr_V.iload_n (i := 2) dX7_digest_126 rfl rfl ?_
            refine tr_V.aload_n (i := 0) dX7_digest_127 rfl rfl ?_
            refine tr_V.getR (Nat.succ_pos _) fl_X7_13 shM_1 rfl dX7_digest_128 ?_
            refine tr_V.iload_n (i := 1) dX7_digest_131 rfl rfl ?_
            refine tr_V.bd (fun a29 h30 => ?_)
            refine tr_V.iald h30 shM_3 dX7_digest_132 ?_
            refine tr_V.icmp_ge (tgt := 153) dX7_digest_133 (by decide) ?_ ?_
            · refine tr_V.aload_n (i := 0) dX7_digest_136 rfl rfl ?_
              refine tr_V.aload_n (i := 0) dX7_digest_137 rfl rfl ?_
              refine tr_V.iload_n (i := 1) dX7_digest_138 rfl rfl ?_
              refine tr_V.iload_n (i := 2) dX7_digest_139 rfl rfl ?_
              refine tr_V.bd (fun c31 h32 => ?_)
              refine tr_V.callV (C_X7_rowAt s23.1 s28.1 s28.2 _ h32) yk_X7_rowAt iv_X7_rowAt ml_X7_110 shM_1 rfl ⟨rfl, Nat.le_of_ble_eq_true rfl⟩ rfl (Nat.le_of_ble_eq_true rfl) rfl dX7_digest_140 ?_
              refine tr_V.i2l dX7_digest_143 ?_
              refine tr_V.bd (fun c33 h34 => ?_)
              refine tr_V.callV (C_X7_mix c31.toInt64 s28.2 _ h34) yk_X7_mix iv_X7_mix ml_X7_404 shM_1 rfl ⟨rfl, Nat.le_of_ble_eq_true rfl⟩ rfl (Nat.le_of_ble_eq_true rfl) rfl dX7_digest_144 ?_
              refine tr_V.iinc (cst := (1 : Int32)) dX7_digest_147 rfl (by decide) rfl ?_
              refine tr_V.goto (tgt := 126) dX7_digest_150 (by decide) ?_
              exact tr_V.to (fun h => h) ⟨rfl, rfl, rfl, trivial⟩
            · refine tr_V.iinc (cst := (1 : Int32)) dX7_digest_153 rfl (by decide) rfl ?_
              refine tr_V.goto (tgt := 107) dX7_digest_156 (by decide) ?_
              exact tr_V.to (fun h => h) ⟨rfl, rfl, trivial⟩
          · exact tr_V.to (fun h => h) ⟨rfl, trivial⟩
        · intro v22
          refine tr_V.iconst (v := (0 : Int32)) dX7_digest_159 (by decide) ?_
          refine tr_V.istore_n (i := 1) dX7_digest_160 rfl (Nat.le_of_ble_eq_true rfl) rfl ?_
          refine tr_V.loop (σ := Int32 × tr_M) (step := mX7_digest_l161) (L := fun s35 => [(0, some (.ref 1)), (1, some (.int s35.1))]) (Mf := fun s35 => s35.2) ?_ ((0 : Int32), v22) ⟨rfl, rfl, trivial⟩
          intro s35
          refine tr_V.iload_n (i := 1) dX7_digest_161 rfl rfl ?_
          refine tr_V.iconst (v := (4 : Int32)) dX7_digest_162 (by decide) ?_
          refine tr_V.icmp_ge (tgt := 212) dX7_digest_163 (by decide) ?_ ?_
          · refine tr_V.aload_n (i := 0) dX7_digest_166 rfl rfl ?_
            refine tr_V.aload_n (i := 0) dX7_digest_167 rfl rfl ?_
            refine tr_V.getR (Nat.succ_pos _) fl_X7_22 shM_1 rfl dX7_digest_168 ?_
            refine tr_V.iload_n (i := 1) dX7_digest_171 rfl rfl ?_
            refine tr_V.bd (fun a36 h37 => ?_)
            refine tr_V.iald h37 shM_6 dX7_digest_172 ?_
            refine tr_V.i2l dX7_digest_173 ?_
            refine tr_V.bd (fun c38 h39 => ?_)
            refine tr_V.callV (C_X7_mix a36.toInt64 s35.2 _ h39) yk_X7_mix iv_X7_mix ml_X7_404 shM_1 rfl ⟨rfl, Nat.le_of_ble_eq_true rfl⟩ rfl (Nat.le_of_ble_eq_true rfl) rfl dX7_digest_174 ?_
            refine tr_V.iconst (v := (0 : Int32)) dX7_digest_177 (by decide) ?_
            refine tr_V.istore_n (i := 2) dX7_digest_178 rfl (Nat.le_of_ble_eq_true rfl) rfl ?_
            refine tr_V.loop (σ := Int32 × tr_M) (step := mX7_digest_l179 s35) (L := fun s40 => [(0, some (.ref 1)), (1, some (.int s35.1)), (2, some (.int s40.1))]) (Mf := fun s40 => s40.2) ?_ ((0 : Int32), c38) ⟨rfl, rfl, rfl, trivial⟩
            intro s40
            refine tr_V.iload_n (i := 2) dX7_digest_179 rfl rfl ?_
            refine tr_V.aload_n (i := 0) dX7_digest_180 rfl rfl ?_
            refine tr_V.getR (Nat.succ_pos _) fl_X7_22 shM_1 rfl dX7_digest_181 ?_
            refine tr_V.iload_n (i := 1) dX7_digest_184 rfl rfl ?_
            refine tr_V.bd (fun a41 h42 => ?_)
            refine tr_V.iald h42 shM_6 dX7_digest_185 ?_
            refine tr_V.icmp_ge (tgt := 206) dX7_digest_186 (by decide) ?_ ?_
            · refine tr_V.aload_n (i := 0) dX7_digest_189 rfl rfl ?_
              refine tr_V.aload_n (i := 0) dX7_digest_190 rfl rfl ?_
              refine tr_V.iload_n (i := 1) dX7_digest_191 rfl rfl ?_
              refine tr_V.iload_n (i := 2) dX7_digest_192 rfl rfl ?_
              refine tr_V.bd (fun c43 h44 => ?_)
              refine tr_V.callV (C_X7_byteAt s35.1 s40.1 s40.2 _ h44) yk_X7_byteAt iv_X7_byteAt ml_X7_123 shM_1 rfl ⟨rfl, Nat.le_of_ble_eq_true rfl⟩ rfl (Nat.le_of_ble_eq_true rfl) rfl dX7_digest_193 ?_
              refine tr_V.i2l dX7_digest_196 ?_
              refine tr_V.bd (fun c45 h46 => ?_)
              refine tr_V.callV (C_X7_mix c43.toInt64 s40.2 _ h46) yk_X7_mix iv_X7_mix ml_X7_404 shM_1 rfl ⟨rfl, Nat.le_of_ble_eq_true rfl⟩ rfl (Nat.le_of_ble_eq_true rfl) rfl dX7_digest_197 ?_
              refine tr_V.iinc (cst := (1 : Int32)) dX7_digest_200 rfl (by decide) rfl ?_
              refine tr_V.goto (tgt := 179) dX7_digest_203 (by decide) ?_
              exact tr_V.to (fun h => h) ⟨rfl, rfl, rfl, trivial⟩
            · refine tr_V.iinc (cst := (1 : Int32)) dX7_digest_206 rfl (by decide) rfl ?_
              refine tr_V.goto (tgt := 161) dX7_digest_209 (by decide) ?_
              exact tr_V.to (fun h => h) ⟨rfl, rfl, trivial⟩
          · refine tr_V.aload_n (i := 0) dX7_digest_212 rfl rfl ?_
            refine tr_V.getJ fl_X7_399 shM_1 rfl dX7_digest_213 ?_
            exact tr_V.lret dX7_digest_216 rfl (fun h => h)
