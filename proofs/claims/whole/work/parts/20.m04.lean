abbrev xX6_isRow : tr_X := (cX6_isRow, 1, RX6, (some .boolean), 1, shC, 81)
theorem cw_X6_isRow : Cond.code yX6_isRow cX6_isRow 1 (some .boolean) ∈ tr_tbl := tr_in 392 (by decide +kernel) rfl
theorem yk_X6_isRow : tr_yk yX6_isRow (xX6_isRow) 1 := ⟨cw_X6_isRow, in_X6, ⟨by decide +kernel, by decide +kernel, by decide +kernel⟩, Nat.le_of_ble_eq_true rfl⟩
theorem sc_X6_isRow : Cond.static yX6_isRow ∈ tr_tbl := tr_in 391 (by decide +kernel) rfl
def mX6_isRow' (p0 : Int32) : Option Int32 :=
  if p0 < 0 then (
    some (0 : Int32)
  ) else (
    if p0 < (6 : Int32) then (
      some (1 : Int32)
    ) else (
      some (0 : Int32)
    )
  )
def mX6_isRow (p0 : Int32) : Int32 :=
  if p0 < 0 then (
    (0 : Int32)
  ) else (
    if p0 < (6 : Int32) then (
      (1 : Int32)
    ) else (
      (0 : Int32)
    )
  )
theorem mX6_isRow_eq (p0 : Int32) : mX6_isRow' p0 = some (mX6_isRow p0) := by
  unfold mX6_isRow' mX6_isRow
  repeat' split
  all_goals rfl
set_option maxRecDepth 100000 in
set_option maxHeartbeats 4000000 in
theorem C_X6_isRow (p0 : Int32) (M : tr_M) : tr_I yX6_isRow (xX6_isRow) [.int p0] M (some (.int (mX6_isRow p0))) M := by
  refine tr_I.of (Z := fun q : Int32 => (some (.int (mX6_isRow p0)) : Option Value) = some (.int q) ∧ M = M) pn_X6 rfl gdC (Nat.le_of_ble_eq_true rfl) (fun Wt => ?_) (mX6_isRow_eq p0) ⟨rfl, rfl⟩
  unfold mX6_isRow'
  refine tr_V.iload_n (i := 0) dX6_isRow_0 rfl rfl ?_
  refine tr_V.if_lt (tgt := 14) dX6_isRow_1 (by decide) ?_ ?_
  · refine tr_V.iconst (v := (0 : Int32)) dX6_isRow_14 (by decide) ?_
    exact tr_V.zret (by decide) dX6_isRow_15 rfl (fun h => h)
  · refine tr_V.iload_n (i := 0) dX6_isRow_4 rfl rfl ?_
    refine tr_V.bipush (v := (6 : Int32)) dX6_isRow_5 (by decide) ?_
    refine tr_V.icmp_ge (tgt := 14) dX6_isRow_7 (by decide) ?_ ?_
    · refine tr_V.iconst (v := (1 : Int32)) dX6_isRow_10 (by decide) ?_
      refine tr_V.goto (tgt := 15) dX6_isRow_11 (by decide) ?_
      exact tr_V.zret (by decide) dX6_isRow_15 rfl (fun h => h)
    · refine tr_V.iconst (v := (0 : Int32)) dX6_isRow_14 (by decide) ?_
      exact tr_V.zret (by decide) dX6_isRow_15 rfl (fun h => h)
abbrev xX6_found : tr_X := (cX6_found, 2, RX6, (some .int), 1, shC, 81)
theorem cw_X6_found : Cond.code yX6_found cX6_found 2 (some .int) ∈ tr_tbl := tr_in 396 (by decide +kernel) rfl
theorem yk_X6_found : tr_yk yX6_found (xX6_found) 1 := ⟨cw_X6_found, in_X6, ⟨by decide +kernel, by decide +kernel, by decide +kernel⟩, Nat.le_of_ble_eq_true rfl⟩
theorem iv_X6_found : Cond.instanceMethod yX6_found ∈ tr_tbl ∧ Cond.selects (yX6_found).cls yX6_found yX6_found ∈ tr_tbl := ⟨tr_in 395 (by decide +kernel) rfl, tr_in 0 (by decide +kernel) rfl⟩
def mX6_found (p1 : Int32) (M : tr_M) : Option (Int32 × tr_M) :=
  Option.bind (some (tr_st M 1 11 p1)) (fun M1 =>
  Option.bind (tr_rd 6 M1 57 p1) (fun a3 =>
  Option.bind (tr_wr 6 M1 57 p1 (a3 + (1 : Int32))) (fun M5 =>
  some ((-3 : Int32), M5)
  )
  )
  )
set_option maxRecDepth 100000 in
set_option maxHeartbeats 4000000 in
theorem C_X6_found (p1 : Int32) (M : tr_M) (r : Int32 × tr_M) (h : mX6_found p1 M = some r) : tr_I yX6_found (xX6_found) [.ref 1, .int p1] M (some (.int r.1)) r.2 := by
  refine tr_I.of (Z := fun q : Int32 × tr_M => (some (.int r.1) : Option Value) = some (.int q.1) ∧ r.2 = q.2) pn_X6 rfl gdC (Nat.le_of_ble_eq_true rfl) (fun Wt => ?_) h ⟨rfl, rfl⟩
  unfold mX6_found
  refine tr_V.aload_n (i := 0) dX6_found_0 rfl rfl ?_
  refine tr_V.iload_n (i := 1) dX6_found_1 rfl rfl ?_
  refine tr_V.bd (fun M1 h2 => ?_)
  refine tr_V.putI fl_X6_60 shC_1 rfl dX6_found_2 h2 ?_
  refine tr_V.aload_n (i := 0) dX6_found_5 rfl rfl ?_
  refine tr_V.getR (Nat.succ_pos _) fl_X6_44 shC_1 rfl dX6_found_6 ?_
  refine tr_V.iload_n (i := 1) dX6_found_9 rfl rfl ?_
  refine tr_V.dup2 rfl rfl dX6_found_10 ?_
  refine tr_V.bd (fun a3 h4 => ?_)
  refine tr_V.iald h4 shC_57 dX6_found_11 ?_
  refine tr_V.iconst (v := (1 : Int32)) dX6_found_12 (by decide) ?_
  refine tr_V.iadd dX6_found_13 ?_
  refine tr_V.bd (fun M5 h6 => ?_)
  refine tr_V.iast h6 shC_57 dX6_found_14 ?_
  refine tr_V.bipush (v := (-3 : Int32)) dX6_found_15 (by decide) ?_
  exact tr_V.iret dX6_found_17 rfl (fun h => h)
abbrev xX6_row : tr_X := (cX6_row, 3, RX6, (some .int), 4, shC, 81)
theorem cw_X6_row : Cond.code yX6_row cX6_row 3 (some .int) ∈ tr_tbl := tr_in 389 (by decide +kernel) rfl
theorem yk_X6_row : tr_yk yX6_row (xX6_row) 2 := ⟨cw_X6_row, in_X6, ⟨by decide +kernel, by decide +kernel, by decide +kernel⟩, Nat.le_of_ble_eq_true rfl⟩
theorem iv_X6_row : Cond.instanceMethod yX6_row ∈ tr_tbl ∧ Cond.selects (yX6_row).cls yX6_row yX6_row ∈ tr_tbl := ⟨tr_in 387 (by decide +kernel) rfl, tr_in 388 (by decide +kernel) rfl⟩
def mX6_row (p1 : Int32) (p2 : Int32) (M : tr_M) : Option (Int32 × tr_M) :=
  if (mX6_isRow p1) = 0 then (
    some ((-1 : Int32), M)
  ) else (
    if (60 : Int32) < p2 then (
      some ((-1 : Int32), M)
    ) else (
      if p2 < 0 then (
        Option.bind (mX6_found (5 : Int32) M) (fun c3 =>
        some (c3.1, c3.2)
        )
      ) else (
        Option.bind (tr_ra 6 (fun i => 62 + 2 * i) p1) (fun r5 =>
        Option.bind (mX1_make r5 p2 (0 : Int32) M) (fun c7 =>
        some (p2, c7)
        )
        )
      )
    )
  )
set_option maxRecDepth 100000 in
set_option maxHeartbeats 4000000 in
theorem C_X6_row (p1 : Int32) (p2 : Int32) (M : tr_M) (r : Int32 × tr_M) (h : mX6_row p1 p2 M = some r) : tr_I yX6_row (xX6_row) [.ref 1, .int p1, .int p2] M (some (.int r.1)) r.2 := by
  refine tr_I.of (Z := fun q : Int32 × tr_M => (some (.int r.1) : Option Value) = some (.int q.1) ∧ r.2 = q.2) pn_X6 rfl gdC (Nat.le_of_ble_eq_true rfl) (fun Wt => ?_) h ⟨rfl, rfl⟩
  unfold mX6_row
  refine tr_V.iload_n (i := 1) dX6_row_0 rfl rfl ?_
  refine tr_V.callS (C_X6_isRow p1 M) yk_X6_isRow sc_X6_isRow ml_X6_84 ⟨rfl, Nat.le_of_ble_eq_true rfl⟩ rfl (Nat.le_of_ble_eq_true rfl) rfl dX6_row_1 ?_
  refine tr_V.if_eq (tgt := 13) dX6_row_4 (by decide) ?_ ?_
  · refine tr_V.iconst (v := (-1 : Int32)) dX6_row_13 (by decide) ?_
    exact tr_V.iret dX6_row_14 rfl (fun h => h)
  · refine tr_V.iload_n (i := 2) dX6_row_7 rfl rfl ?_
    refine tr_V.bipush (v := (60 : Int32)) dX6_row_8 (by decide) ?_
    refine tr_V.icmp_le (tgt := 15) dX6_row_10 (by decide) ?_ ?_
    · refine tr_V.iconst (v := (-1 : Int32)) dX6_row_13 (by decide) ?_
      exact tr_V.iret dX6_row_14 rfl (fun h => h)
    · refine tr_V.iload_n (i := 2) dX6_row_15 rfl rfl ?_
      refine tr_V.if_ge (tgt := 25) dX6_row_16 (by decide) ?_ ?_
      · refine tr_V.aload_n (i := 0) dX6_row_19 rfl rfl ?_
        refine tr_V.iconst (v := (5 : Int32)) dX6_row_20 (by decide) ?_
        refine tr_V.bd (fun c3 h4 => ?_)
        refine tr_V.callV (C_X6_found (5 : Int32) M _ h4) yk_X6_found iv_X6_found ml_X6_88 shC_1 rfl ⟨rfl, Nat.le_of_ble_eq_true rfl⟩ rfl (Nat.le_of_ble_eq_true rfl) rfl dX6_row_21 ?_
        exact tr_V.iret dX6_row_24 rfl (fun h => h)
      · refine tr_V.aload_n (i := 0) dX6_row_25 rfl rfl ?_
        refine tr_V.getR (Nat.succ_pos _) fl_X6_11 shC_1 rfl dX6_row_26 ?_
        refine tr_V.iload_n (i := 1) dX6_row_29 rfl rfl ?_
        refine tr_V.bd (fun r5 h6 => ?_)
        refine tr_V.aald (ty := .object RX1) h6 shC_2 (isL_pos (isL_2 h6)) (fun _ => rfl) rfl dX6_row_30 ?_
        refine tr_V.iload_n (i := 2) dX6_row_31 rfl rfl ?_
        refine tr_V.iconst (v := (0 : Int32)) dX6_row_32 (by decide) ?_
        refine tr_V.bd (fun c7 h8 => ?_)
        refine tr_V.callV (C_X1_make r5 (isL_2 h6) p2 (0 : Int32) M _ h8) yk_X1_make iv_X1_make ml_X6_92 (shL (isL_2 h6)) rfl ⟨rfl, Nat.le_of_ble_eq_true rfl⟩ rfl (Nat.le_of_ble_eq_true rfl) rfl dX6_row_33 ?_
        refine tr_V.iload_n (i := 2) dX6_row_36 rfl rfl ?_
        exact tr_V.iret dX6_row_37 rfl (fun h => h)
abbrev xX6_lay : tr_X := (cX6_lay, 5, RX6, (some .int), 3, shC, 81)
theorem cw_X6_lay : Cond.code yX6_lay cX6_lay 5 (some .int) ∈ tr_tbl := tr_in 410 (by decide +kernel) rfl
theorem yk_X6_lay : tr_yk yX6_lay (xX6_lay) 3 := ⟨cw_X6_lay, in_X6, ⟨by decide +kernel, by decide +kernel, by decide +kernel⟩, Nat.le_of_ble_eq_true rfl⟩
theorem iv_X6_lay : Cond.instanceMethod yX6_lay ∈ tr_tbl ∧ Cond.selects (yX6_lay).cls yX6_lay yX6_lay ∈ tr_tbl := ⟨tr_in 408 (by decide +kernel) rfl, tr_in 409 (by decide +kernel) rfl⟩
def mX6_lay (p1 : Int32) (p2 : Int32) (p3 : Int32) (M : tr_M) : Option (Int32 × tr_M) :=
  if (mX6_isRow p1) = 0 then (
    some ((-1 : Int32), M)
  ) else (
    Option.bind (tr_ra 6 (fun i => 62 + 2 * i) p1) (fun r3 =>
    if (mX1_faultAt r3 p2 M) = 0 then (
      Option.bind (tr_ra 6 (fun i => 62 + 2 * i) p1) (fun r7 =>
      Option.bind (tr_rd (tr_len shC (r7 + 1)) M (r7 + 1) p2) (fun a9 =>
      Option.bind (some (tr_st M 1 12 a9)) (fun M11 =>
      Option.bind (tr_ra 6 (fun i => 62 + 2 * i) p1) (fun r13 =>
      Option.bind (tr_wr (tr_len shC (r13 + 1)) M11 (r13 + 1) p2 p3) (fun M15 =>
      some ((1 : Int32), M15)
      )
      )
      )
      )
      )
    ) else (
      Option.bind (mX6_found (mX1_faultAt r3 p2 M) M) (fun c17 =>
      some (c17.1, c17.2)
      )
    )
    )
  )
set_option maxRecDepth 100000 in
set_option maxHeartbeats 4000000 in
theorem C_X6_lay (p1 : Int32) (p2 : Int32) (p3 : Int32) (M : tr_M) (r : Int32 × tr_M) (h : mX6_lay p1 p2 p3 M = some r) : tr_I yX6_lay (xX6_lay) [.ref 1, .int p1, .int p2, .int p3] M (some (.int r.1)) r.2 := by
  refine tr_I.of (Z := fun q : Int32 × tr_M => (some (.int r.1) : Option Value) = some (.int q.1) ∧ r.2 = q.2) pn_X6 rfl gdC (Nat.le_of_ble_eq_true rfl) (fun Wt => ?_) h ⟨rfl, rfl⟩
  unfold mX6_lay
  refine tr_V.iload_n (i := 1) dX6_lay_0 rfl rfl ?_
  refine tr_V.callS (C_X6_isRow p1 M) yk_X6_isRow sc_X6_isRow ml_X6_84 ⟨rfl, Nat.le_of_ble_eq_true rfl⟩ rfl (Nat.le_of_ble_eq_true rfl) rfl dX6_lay_1 ?_
  refine tr_V.if_ne (tgt := 9) dX6_lay_4 (by decide) ?_ ?_
  · refine tr_V.iconst (v := (-1 : Int32)) dX6_lay_7 (by decide) ?_
    exact tr_V.iret dX6_lay_8 rfl (fun h => h)
  · refine tr_V.aload_n (i := 0) dX6_lay_9 rfl rfl ?_
    refine tr_V.getR (Nat.succ_pos _) fl_X6_11 shC_1 rfl dX6_lay_10 ?_
    refine tr_V.iload_n (i := 1) dX6_lay_13 rfl rfl ?_
    refine tr_V.bd (fun r3 h4 => ?_)
    refine tr_V.aald (ty := .object RX1) h4 shC_2 (isL_pos (isL_2 h4)) (fun _ => rfl) rfl dX6_lay_14 ?_
    refine tr_V.iload_n (i := 2) dX6_lay_15 rfl rfl ?_
    refine tr_V.callV (C_X1_faultAt r3 (isL_2 h4) p2 M) yk_X1_faultAt iv_X1_faultAt ml_X6_96 (shL (isL_2 h4)) rfl ⟨rfl, Nat.le_of_ble_eq_true rfl⟩ rfl (Nat.le_of_ble_eq_true rfl) rfl dX6_lay_16 ?_
    refine tr_V.istore (i := 4) dX6_lay_19 (Nat.le_of_ble_eq_true rfl) rfl ?_
    refine tr_V.iload dX6_lay_21 rfl ?_
    refine tr_V.if_eq (tgt := 33) dX6_lay_23 (by decide) ?_ ?_
    · refine tr_V.aload_n (i := 0) dX6_lay_33 rfl rfl ?_
      refine tr_V.aload_n (i := 0) dX6_lay_34 rfl rfl ?_
      refine tr_V.getR (Nat.succ_pos _) fl_X6_11 shC_1 rfl dX6_lay_35 ?_
      refine tr_V.iload_n (i := 1) dX6_lay_38 rfl rfl ?_
      refine tr_V.bd (fun r7 h8 => ?_)
      refine tr_V.aald (ty := .object RX1) h8 shC_2 (isL_pos (isL_2 h8)) (fun _ => rfl) rfl dX6_lay_39 ?_
      refine tr_V.getR (Nat.succ_pos _) fl_X6_99 (shL (isL_2 h8)) rfl dX6_lay_40 ?_
      refine tr_V.iload_n (i := 2) dX6_lay_43 rfl rfl ?_
      refine tr_V.bd (fun a9 h10 => ?_)
      refine tr_V.ialdL h10 dX6_lay_44 ?_
      refine tr_V.bd (fun M11 h12 => ?_)
      refine tr_V.putI fl_X6_64 shC_1 rfl dX6_lay_45 h12 ?_
      refine tr_V.aload_n (i := 0) dX6_lay_48 rfl rfl ?_
      refine tr_V.getR (Nat.succ_pos _) fl_X6_11 shC_1 rfl dX6_lay_49 ?_
      refine tr_V.iload_n (i := 1) dX6_lay_52 rfl rfl ?_
      refine tr_V.bd (fun r13 h14 => ?_)
      refine tr_V.aald (ty := .object RX1) h14 shC_2 (isL_pos (isL_2 h14)) (fun _ => rfl) rfl dX6_lay_53 ?_
      refine tr_V.getR (Nat.succ_pos _) fl_X6_99 (shL (isL_2 h14)) rfl dX6_lay_54 ?_
      refine tr_V.iload_n (i := 2) dX6_lay_57 rfl rfl ?_
      refine tr_V.iload_n (i := 3) dX6_lay_58 rfl rfl ?_
      refine tr_V.bd (fun M15 h16 => ?_)
      refine tr_V.iastL h16 dX6_lay_59 ?_
      refine tr_V.iconst (v := (1 : Int32)) dX6_lay_60 (by decide) ?_
      exact tr_V.iret dX6_lay_61 rfl (fun h => h)
    · refine tr_V.aload_n (i := 0) dX6_lay_26 rfl rfl ?_
      refine tr_V.iload dX6_lay_27 rfl ?_
      refine tr_V.bd (fun c17 h18 => ?_)
      refine tr_V.callV (C_X6_found (mX1_faultAt r3 p2 M) M _ h18) yk_X6_found iv_X6_found ml_X6_88 shC_1 rfl ⟨rfl, Nat.le_of_ble_eq_true rfl⟩ rfl (Nat.le_of_ble_eq_true rfl) rfl dX6_lay_29 ?_
      exact tr_V.iret dX6_lay_32 rfl (fun h => h)
abbrev xX6_at : tr_X := (cX6_at, 4, RX6, (some .int), 3, shC, 81)
theorem cw_X6_at : Cond.code yX6_at cX6_at 4 (some .int) ∈ tr_tbl := tr_in 422 (by decide +kernel) rfl
theorem yk_X6_at : tr_yk yX6_at (xX6_at) 2 := ⟨cw_X6_at, in_X6, ⟨by decide +kernel, by decide +kernel, by decide +kernel⟩, Nat.le_of_ble_eq_true rfl⟩
theorem iv_X6_at : Cond.instanceMethod yX6_at ∈ tr_tbl ∧ Cond.selects (yX6_at).cls yX6_at yX6_at ∈ tr_tbl := ⟨tr_in 420 (by decide +kernel) rfl, tr_in 421 (by decide +kernel) rfl⟩
def mX6_at (p1 : Int32) (p2 : Int32) (M : tr_M) : Option (Int32 × tr_M) :=
  if (mX6_isRow p1) = 0 then (
    some ((-1 : Int32), M)
  ) else (
    Option.bind (tr_ra 6 (fun i => 62 + 2 * i) p1) (fun r3 =>
    if (mX1_faultAt r3 p2 M) = 0 then (
      Option.bind (tr_ra 6 (fun i => 62 + 2 * i) p1) (fun r7 =>
      Option.bind (tr_rd (tr_len shC (r7 + 1)) M (r7 + 1) p2) (fun a9 =>
      Option.bind (some (tr_st M 1 12 a9)) (fun M11 =>
      some ((1 : Int32), M11)
      )
      )
      )
    ) else (
      Option.bind (mX6_found (mX1_faultAt r3 p2 M) M) (fun c13 =>
      some (c13.1, c13.2)
      )
    )
    )
  )
set_option maxRecDepth 100000 in
set_option maxHeartbeats 4000000 in
theorem C_X6_at (p1 : Int32) (p2 : Int32) (M : tr_M) (r : Int32 × tr_M) (h : mX6_at p1 p2 M = some r) : tr_I yX6_at (xX6_at) [.ref 1, .int p1, .int p2] M (some (.int r.1)) r.2 := by
  refine tr_I.of (Z := fun q : Int32 × tr_M => (some (.int r.1) : Option Value) = some (.int q.1) ∧ r.2 = q.2) pn_X6 rfl gdC (Nat.le_of_ble_eq_true rfl) (fun Wt => ?_) h ⟨rfl, rfl⟩
  unfold mX6_at
  refine tr_V.iload_n (i := 1) dX6_at_0 rfl rfl ?_
  refine tr_V.callS (C_X6_isRow p1 M) yk_X6_isRow sc_X6_isRow ml_X6_84 ⟨rfl, Nat.le_of_ble_eq_true rfl⟩ rfl (Nat.le_of_ble_eq_true rfl) rfl dX6_at_1 ?_
  refine tr_V.if_ne (tgt := 9) dX6_at_4 (by decide) ?_ ?_
  · refine tr_V.iconst (v := (-1 : Int32)) dX6_at_7 (by decide) ?_
    exact tr_V.iret dX6_at_8 rfl (fun h => h)
  · refine tr_V.aload_n (i := 0) dX6_at_9 rfl rfl ?_
    refine tr_V.getR (Nat.succ_pos _) fl_X6_11 shC_1 rfl dX6_at_10 ?_
    refine tr_V.iload_n (i := 1) dX6_at_13 rfl rfl ?_
    refine tr_V.bd (fun r3 h4 => ?_)
    refine tr_V.aald (ty := .object RX1) h4 shC_2 (isL_pos (isL_2 h4)) (fun _ => rfl) rfl dX6_at_14 ?_
    refine tr_V.iload_n (i := 2) dX6_at_15 rfl rfl ?_
    refine tr_V.callV (C_X1_faultAt r3 (isL_2 h4) p2 M) yk_X1_faultAt iv_X1_faultAt ml_X6_96 (shL (isL_2 h4)) rfl ⟨rfl, Nat.le_of_ble_eq_true rfl⟩ rfl (Nat.le_of_ble_eq_true rfl) rfl dX6_at_16 ?_
    refine tr_V.istore_n (i := 3) dX6_at_19 rfl (Nat.le_of_ble_eq_true rfl) rfl ?_
    refine tr_V.iload_n (i := 3) dX6_at_20 rfl rfl ?_
    refine tr_V.if_eq (tgt := 30) dX6_at_21 (by decide) ?_ ?_
    · refine tr_V.aload_n (i := 0) dX6_at_30 rfl rfl ?_
      refine tr_V.aload_n (i := 0) dX6_at_31 rfl rfl ?_
      refine tr_V.getR (Nat.succ_pos _) fl_X6_11 shC_1 rfl dX6_at_32 ?_
      refine tr_V.iload_n (i := 1) dX6_at_35 rfl rfl ?_
      refine tr_V.bd (fun r7 h8 => ?_)
      refine tr_V.aald (ty := .object RX1) h8 shC_2 (isL_pos (isL_2 h8)) (fun _ => rfl) rfl dX6_at_36 ?_
      refine tr_V.getR (Nat.succ_pos _) fl_X6_99 (shL (isL_2 h8)) rfl dX6_at_37 ?_
      refine tr_V.iload_n (i := 2) dX6_at_40 rfl rfl ?_
      refine tr_V.bd (fun a9 h10 => ?_)
      refine tr_V.ialdL h10 dX6_at_41 ?_
      refine tr_V.bd (fun M11 h12 => ?_)
      refine tr_V.putI fl_X6_64 shC_1 rfl dX6_at_42 h12 ?_
      refine tr_V.iconst (v := (1 : Int32)) dX6_at_45 (by decide) ?_
      exact tr_V.iret dX6_at_46 rfl (fun h => h)
    · refine tr_V.aload_n (i := 0) dX6_at_24 rfl rfl ?_
      refine tr_V.iload_n (i := 3) dX6_at_25 rfl rfl ?_
      refine tr_V.bd (fun c13 h14 => ?_)
      refine tr_V.callV (C_X6_found (mX1_faultAt r3 p2 M) M _ h14) yk_X6_found iv_X6_found ml_X6_88 shC_1 rfl ⟨rfl, Nat.le_of_ble_eq_true rfl⟩ rfl (Nat.le_of_ble_eq_true rfl) rfl dX6_at_26 ?_
      exact tr_V.iret dX6_at_29 rfl (fun h => h)
abbrev xX6_tear : tr_X := (cX6_tear, 2, RX6, (some .int), 2, shC, 81)
theorem cw_X6_tear : Cond.code yX6_tear cX6_tear 2 (some .int) ∈ tr_tbl := tr_in 426 (by decide +kernel) rfl
theorem yk_X6_tear : tr_yk yX6_tear (xX6_tear) 1 := ⟨cw_X6_tear, in_X6, ⟨by decide +kernel, by decide +kernel, by decide +kernel⟩, Nat.le_of_ble_eq_true rfl⟩
theorem iv_X6_tear : Cond.instanceMethod yX6_tear ∈ tr_tbl ∧ Cond.selects (yX6_tear).cls yX6_tear yX6_tear ∈ tr_tbl := ⟨tr_in 424 (by decide +kernel) rfl, tr_in 425 (by decide +kernel) rfl⟩
def mX6_tear (p1 : Int32) (M : tr_M) : Option (Int32 × tr_M) :=
  if (mX6_isRow p1) = 0 then (
    some ((-1 : Int32), M)
  ) else (
    Option.bind (tr_ra 6 (fun i => 62 + 2 * i) p1) (fun r3 =>
    if (mX1_isMissing r3 M) = 0 then (
      Option.bind (tr_ra 6 (fun i => 62 + 2 * i) p1) (fun r7 =>
      Option.bind (some (tr_st M r7 1 (-1 : Int32))) (fun M9 =>
      some ((1 : Int32), M9)
      )
      )
    ) else (
      Option.bind (mX6_found (1 : Int32) M) (fun c11 =>
      some (c11.1, c11.2)
      )
    )
    )
  )
set_option maxRecDepth 100000 in
set_option maxHeartbeats 4000000 in
theorem C_X6_tear (p1 : Int32) (M : tr_M) (r : Int32 × tr_M) (h : mX6_tear p1 M = some r) : tr_I yX6_tear (xX6_tear) [.ref 1, .int p1] M (some (.int r.1)) r.2 := by
  refine tr_I.of (Z := fun q : Int32 × tr_M => (some (.int r.1) : Option Value) = some (.int q.1) ∧ r.2 = q.2) pn_X6 rfl gdC (Nat.le_of_ble_eq_true rfl) (fun Wt => ?_) h ⟨rfl, rfl⟩
  unfold mX6_tear
  refine tr_V.iload_n (i := 1) dX6_tear_0 rfl rfl ?_
  refine tr_V.callS (C_X6_isRow p1 M) yk_X6_isRow sc_X6_isRow ml_X6_84 ⟨rfl, Nat.le_of_ble_eq_true rfl⟩ rfl (Nat.le_of_ble_eq_true rfl) rfl dX6_tear_1 ?_
  refine tr_V.if_ne (tgt := 9) dX6_tear_4 (by decide) ?_ ?_
  · refine tr_V.iconst (v := (-1 : Int32)) dX6_tear_7 (by decide) ?_
    exact tr_V.iret dX6_tear_8 rfl (fun h => h)
  · refine tr_V.aload_n (i := 0) dX6_tear_9 rfl rfl ?_
    refine tr_V.getR (Nat.succ_pos _) fl_X6_11 shC_1 rfl dX6_tear_10 ?_
    refine tr_V.iload_n (i := 1) dX6_tear_13 rfl rfl ?_
    refine tr_V.bd (fun r3 h4 => ?_)
    refine tr_V.aald (ty := .object RX1) h4 shC_2 (isL_pos (isL_2 h4)) (fun _ => rfl) rfl dX6_tear_14 ?_
    refine tr_V.callV (C_X1_isMissing r3 (isL_2 h4) M) yk_X1_isMissing iv_X1_isMissing ml_X6_102 (shL (isL_2 h4)) rfl ⟨rfl, Nat.le_of_ble_eq_true rfl⟩ rfl (Nat.le_of_ble_eq_true rfl) rfl dX6_tear_15 ?_
    refine tr_V.if_eq (tgt := 27) dX6_tear_18 (by decide) ?_ ?_
    · refine tr_V.aload_n (i := 0) dX6_tear_27 rfl rfl ?_
      refine tr_V.getR (Nat.succ_pos _) fl_X6_11 shC_1 rfl dX6_tear_28 ?_
      refine tr_V.iload_n (i := 1) dX6_tear_31 rfl rfl ?_
      refine tr_V.bd (fun r7 h8 => ?_)
      refine tr_V.aald (ty := .object RX1) h8 shC_2 (isL_pos (isL_2 h8)) (fun _ => rfl) rfl dX6_tear_32 ?_
      refine tr_V.iconst (v := (-1 : Int32)) dX6_tear_33 (by decide) ?_
      refine tr_V.bd (fun M9 h10 => ?_)
      refine tr_V.putI fl_X6_106 (shL (isL_2 h8)) rfl dX6_tear_34 h10 ?_
      refine tr_V.iconst (v := (1 : Int32)) dX6_tear_37 (by decide) ?_
      exact tr_V.iret dX6_tear_38 rfl (fun h => h)
    · refine tr_V.aload_n (i := 0) dX6_tear_21 rfl rfl ?_
      refine tr_V.iconst (v := (1 : Int32)) dX6_tear_22 (by decide) ?_
      refine tr_V.bd (fun c11 h12 => ?_)
      refine tr_V.callV (C_X6_found (1 : Int32) M _ h12) yk_X6_found iv_X6_found ml_X6_88 shC_1 rfl ⟨rfl, Nat.le_of_ble_eq_true rfl⟩ rfl (Nat.le_of_ble_eq_true rfl) rfl dX6_tear_23 ?_
      exact tr_V.iret dX6_tear_26 rfl (fun h => h)
abbrev xX6_copy : tr_X := (cX6_copy, 6, RX6, (some .int), 2, shC, 81)
theorem cw_X6_copy : Cond.code yX6_copy cX6_copy 6 (some .int) ∈ tr_tbl := tr_in 431 (by decide +kernel) rfl
theorem yk_X6_copy : tr_yk yX6_copy (xX6_copy) 5 := ⟨cw_X6_copy, in_X6, ⟨by decide +kernel, by decide +kernel, by decide +kernel⟩, Nat.le_of_ble_eq_true rfl⟩
theorem iv_X6_copy : Cond.instanceMethod yX6_copy ∈ tr_tbl ∧ Cond.selects (yX6_copy).cls yX6_copy yX6_copy ∈ tr_tbl := ⟨tr_in 429 (by decide +kernel) rfl, tr_in 430 (by decide +kernel) rfl⟩
def mX6_copy (p1 : Int32) (p2 : Int32) (p3 : Int32) (p4 : Int32) (p5 : Int32) (M : tr_M) : Option (Int32 × tr_M) :=
  if (mX6_isRow p1) = 0 then (
    some ((-1 : Int32), M)
  ) else (
    if (mX6_isRow p3) = 0 then (
      some ((-1 : Int32), M)
    ) else (
      if p5 < 0 then (
        Option.bind (mX6_found (5 : Int32) M) (fun c5 =>
        some (c5.1, c5.2)
        )
      ) else (
        Option.bind (tr_ra 6 (fun i => 62 + 2 * i) p1) (fun r7 =>
        Option.bind (show Option ((tr_M) ⊕ (Int32 × tr_M)) from
          if (mX1_isMissing r7 M) = 0 then (
            Option.bind (tr_ra 6 (fun i => 62 + 2 * i) p3) (fun r12 =>
            if (mX1_isMissing r12 M) = 0 then (
              Option.bind (tr_ra 6 (fun i => 62 + 2 * i) p1) (fun r16 =>
              Option.bind (show Option ((tr_M) ⊕ ((tr_M) ⊕ (Int32 × tr_M))) from
                if (mX1_holdsRun r16 p2 p5 M) = 0 then (
                  some (.inl M)
                ) else (
                  Option.bind (tr_ra 6 (fun i => 62 + 2 * i) p3) (fun r21 =>
                  if (mX1_holdsRun r21 p4 p5 M) = 0 then (
                    some (.inl M)
                  ) else (
                    Option.bind (tr_ra 6 (fun i => 62 + 2 * i) p1) (fun r25 =>
                    Option.bind (tr_ra 6 (fun i => 62 + 2 * i) p3) (fun r27 =>
                    Option.bind (tr_cpy (tr_len shC (r25 + 1)) (tr_len shC (r27 + 1)) M (r25 + 1) p2 (r27 + 1) p4 p5) (fun M29 =>
                    some (.inr (.inr ((1 : Int32), M29)))
                    )
                    )
                    )
                  )
                  )
                )
              ) (tr_el (fun (v20 : tr_M) =>
                Option.bind (mX6_found (2 : Int32) v20) (fun c31 =>
                some (.inr (c31.1, c31.2))
                )
              ))
              )
            ) else (
              some (.inl M)
            )
            )
          ) else (
            some (.inl M)
          )
        ) (tr_el (fun (v11 : tr_M) =>
          Option.bind (mX6_found (1 : Int32) v11) (fun c33 =>
          some (c33.1, c33.2)
          )
        ))
        )
      )
    )
  )
set_option maxRecDepth 100000 in
set_option maxHeartbeats 4000000 in
theorem C_X6_copy (p1 : Int32) (p2 : Int32) (p3 : Int32) (p4 : Int32) (p5 : Int32) (M : tr_M) (r : Int32 × tr_M) (h : mX6_copy p1 p2 p3 p4 p5 M = some r) : tr_I yX6_copy (xX6_copy) [.ref 1, .int p1, .int p2, .int p3, .int p4, .int p5] M (some (.int r.1)) r.2 := by
  refine tr_I.of (Z := fun q : Int32 × tr_M => (some (.int r.1) : Option Value) = some (.int q.1) ∧ r.2 = q.2) pn_X6 rfl gdC (Nat.le_of_ble_eq_true rfl) (fun Wt => ?_) h ⟨rfl, rfl⟩
  unfold mX6_copy
  refine tr_V.iload_n (i := 1) dX6_copy_0 rfl rfl ?_
  refine tr_V.callS (C_X6_isRow p1 M) yk_X6_isRow sc_X6_isRow ml_X6_84 ⟨rfl, Nat.le_of_ble_eq_true rfl⟩ rfl (Nat.le_of_ble_eq_true rfl) rfl dX6_copy_1 ?_
  refine tr_V.if_eq (tgt := 14) dX6_copy_4 (by decide) ?_ ?_
  · refine tr_V.iconst (v := (-1 : Int32)) dX6_copy_14 (by decide) ?_
    exact tr_V.iret dX6_copy_15 rfl (fun h => h)
  · refine tr_V.iload_n (i := 3) dX6_copy_7 rfl rfl ?_
    refine tr_V.callS (C_X6_isRow p3 M) yk_X6_isRow sc_X6_isRow ml_X6_84 ⟨rfl, Nat.le_of_ble_eq_true rfl⟩ rfl (Nat.le_of_ble_eq_true rfl) rfl dX6_copy_8 ?_
    refine tr_V.if_ne (tgt := 16) dX6_copy_11 (by decide) ?_ ?_
    · refine tr_V.iconst (v := (-1 : Int32)) dX6_copy_14 (by decide) ?_
      exact tr_V.iret dX6_copy_15 rfl (fun h => h)
    · refine tr_V.iload dX6_copy_16 rfl ?_
      refine tr_V.if_ge (tgt := 27) dX6_copy_18 (by decide) ?_ ?_
      · refine tr_V.aload_n (i := 0) dX6_copy_21 rfl rfl ?_
        refine tr_V.iconst (v := (5 : Int32)) dX6_copy_22 (by decide) ?_
        refine tr_V.bd (fun c5 h6 => ?_)
        refine tr_V.callV (C_X6_found (5 : Int32) M _ h6) yk_X6_found iv_X6_found ml_X6_88 shC_1 rfl ⟨rfl, Nat.le_of_ble_eq_true rfl⟩ rfl (Nat.le_of_ble_eq_true rfl) rfl dX6_copy_23 ?_
        exact tr_V.iret dX6_copy_26 rfl (fun h => h)
      · refine tr_V.aload_n (i := 0) dX6_copy_27 rfl rfl ?_
        refine tr_V.getR (Nat.succ_pos _) fl_X6_11 shC_1 rfl dX6_copy_28 ?_
        refine tr_V.iload_n (i := 1) dX6_copy_31 rfl rfl ?_
        refine tr_V.bd (fun r7 h8 => ?_)
        refine tr_V.aald (ty := .object RX1) h8 shC_2 (isL_pos (isL_2 h8)) (fun _ => rfl) rfl dX6_copy_32 ?_
        refine tr_V.callV (C_X1_isMissing r7 (isL_2 h8) M) yk_X1_isMissing iv_X1_isMissing ml_X6_102 (shL (isL_2 h8)) rfl ⟨rfl, Nat.le_of_ble_eq_true rfl⟩ rfl (Nat.le_of_ble_eq_true rfl) rfl dX6_copy_33 ?_
        refine tr_V.seqE (τ := tr_M) (pc' := 51) (L := fun v11 => [(0, some (.ref 1))]) (S := fun v11 => []) (Mf := fun v11 => v11) ?_ ?_
        · refine tr_V.if_ne (tgt := 51) dX6_copy_36 (by decide) ?_ ?_
          · refine tr_V.aload_n (i := 0) dX6_copy_39 rfl rfl ?_
            refine tr_V.getR (Nat.succ_pos _) fl_X6_11 shC_1 rfl dX6_copy_40 ?_
            refine tr_V.iload_n (i := 3) dX6_copy_43 rfl rfl ?_
            refine tr_V.bd (fun r12 h13 => ?_)
            refine tr_V.aald (ty := .object RX1) h13 shC_2 (isL_pos (isL_2 h13)) (fun _ => rfl) rfl dX6_copy_44 ?_
            refine tr_V.callV (C_X1_isMissing r12 (isL_2 h13) M) yk_X1_isMissing iv_X1_isMissing ml_X6_102 (shL (isL_2 h13)) rfl ⟨rfl, Nat.le_of_ble_eq_true rfl⟩ rfl (Nat.le_of_ble_eq_true rfl) rfl dX6_copy_45 ?_
            refine tr_V.if_eq (tgt := 57) dX6_copy_48 (by decide) ?_ ?_
            · refine tr_V.aload_n (i := 0) dX6_copy_57 rfl rfl ?_
              refine tr_V.getR (Nat.succ_pos _) fl_X6_11 shC_1 rfl dX6_copy_58 ?_
              refine tr_V.iload_n (i := 1) dX6_copy_61 rfl rfl ?_
              refine tr_V.bd (fun r16 h17 => ?_)
              refine tr_V.aald (ty := .object RX1) h17 shC_2 (isL_pos (isL_2 h17)) (fun _ => rfl) rfl dX6_copy_62 ?_
              refine tr_V.iload_n (i := 2) dX6_copy_63 rfl rfl ?_
              refine tr_V.iload dX6_copy_64 rfl ?_
              refine tr_V.callV (C_X1_holdsRun r16 (isL_2 h17) p2 p5 M) yk_X1_holdsRun iv_X1_holdsRun ml_X6_109 (shL (isL_2 h17)) rfl ⟨rfl, Nat.le_of_ble_eq_true rfl⟩ rfl (Nat.le_of_ble_eq_true rfl) rfl dX6_copy_66 ?_
              refine tr_V.seqE (τ := tr_M) (pc' := 88) (L := fun v20 => [(0, some (.ref 1))]) (S := fun v20 => []) (Mf := fun v20 => v20) ?_ ?_
              · refine tr_V.if_eq (tgt := 88) dX6_copy_69 (by decide) ?_ ?_
                · exact tr_V.to (fun h => h) ⟨rfl, trivial⟩
                · refine tr_V.aload_n (i := 0) dX6_copy_72 rfl rfl ?_
                  refine tr_V.getR (Nat.succ_pos _) fl_X6_11 shC_1 rfl dX6_copy_73 ?_
                  refine tr_V.iload_n (i := 3) dX6_copy_76 rfl rfl ?_
                  refine tr_V.bd (fun r21 h22 => ?_)
                  refine tr_V.aald (ty := .object RX1) h22 shC_2 (isL_pos (isL_2 h22)) (fun _ => rfl) rfl dX6_copy_77 ?_
                  refine tr_V.iload dX6_copy_78 rfl ?_
                  refine tr_V.iload dX6_copy_80 rfl ?_
                  refine tr_V.callV (C_X1_holdsRun r21 (isL_2 h22) p4 p5 M) yk_X1_holdsRun iv_X1_holdsRun ml_X6_109 (shL (isL_2 h22)) rfl ⟨rfl, Nat.le_of_ble_eq_true rfl⟩ rfl (Nat.le_of_ble_eq_true rfl) rfl dX6_copy_82 ?_
                  refine tr_V.if_ne (tgt := 94) dX6_copy_85 (by decide) ?_ ?_
                  · exact tr_V.to (fun h => h) ⟨rfl, trivial⟩
                  · refine tr_V.aload_n (i := 0) dX6_copy_94 rfl rfl ?_
                    refine tr_V.getR (Nat.succ_pos _) fl_X6_11 shC_1 rfl dX6_copy_95 ?_
                    refine tr_V.iload_n (i := 1) dX6_copy_98 rfl rfl ?_
                    refine tr_V.bd (fun r25 h26 => ?_)
                    refine tr_V.aald (ty := .object RX1) h26 shC_2 (isL_pos (isL_2 h26)) (fun _ => rfl) rfl dX6_copy_99 ?_
                    refine tr_V.getR (Nat.succ_pos _) fl_X6_99 (shL (isL_2 h26)) rfl dX6_copy_100 ?_
                    refine tr_V.iload_n (i := 2) dX6_copy_103 rfl rfl ?_
                    refine tr_V.aload_n (i := 0) dX6_copy_104 rfl rfl ?_
                    refine tr_V.getR (Nat.succ_pos _) fl_X6_11 shC_1 rfl dX6_copy_105 ?_
                    refine tr_V.iload_n (i := 3) dX6_copy_108 rfl rfl ?_
                    refine tr_V.bd (fun r27 h28 => ?_)
                    refine tr_V.aald (ty := .object RX1) h28 shC_2 (isL_pos (isL_2 h28)) (fun _ => rfl) rfl dX6_copy_109 ?_
                    refine tr_V.getR (Nat.succ_pos _) fl_X6_99 (shL (isL_2 h28)) rfl dX6_copy_110 ?_
                    refine tr_V.iload dX6_copy_113 rfl ?_
                    refine tr_V.iload dX6_copy_115 rfl ?_
                    refine tr_V.bd (fun M29 h30 => ?_)
                    refine tr_V.copy h30 ml_X6_113 w_acN w_acS w_acI (Nat.le_of_ble_eq_true rfl) (Nat.le_of_ble_eq_true rfl) dX6_copy_117 ?_
                    refine tr_V.iconst (v := (1 : Int32)) dX6_copy_120 (by decide) ?_
                    exact tr_V.iret dX6_copy_121 rfl (fun h => h)
              · intro v20
                refine tr_V.aload_n (i := 0) dX6_copy_88 rfl rfl ?_
                refine tr_V.iconst (v := (2 : Int32)) dX6_copy_89 (by decide) ?_
                refine tr_V.bd (fun c31 h32 => ?_)
                refine tr_V.callV (C_X6_found (2 : Int32) v20 _ h32) yk_X6_found iv_X6_found ml_X6_88 shC_1 rfl ⟨rfl, Nat.le_of_ble_eq_true rfl⟩ rfl (Nat.le_of_ble_eq_true rfl) rfl dX6_copy_90 ?_
                exact tr_V.iret dX6_copy_93 rfl (fun h => h)
            · exact tr_V.to (fun h => h) ⟨rfl, trivial⟩
          · exact tr_V.to (fun h => h) ⟨rfl, trivial⟩
        · intro v11
          refine tr_V.aload_n (i := 0) dX6_copy_51 rfl rfl ?_
          refine tr_V.iconst (v := (1 : Int32)) dX6_copy_52 (by decide) ?_
          refine tr_V.bd (fun c33 h34 => ?_)
          refine tr_V.callV (C_X6_found (1 : Int32) v11 _ h34) yk_X6_found iv_X6_found ml_X6_88 shC_1 rfl ⟨rfl, Nat.le_of_ble_eq_true rfl⟩ rfl (Nat.le_of_ble_eq_true rfl) rfl dX6_copy_53 ?_
          exact tr_V.iret dX6_copy_56 rfl (fun h => h)
abbrev xX6_mean : tr_X := (cX6_mean, 6, RX6, (some .int), 2, shC, 81)
theorem cw_X6_mean : Cond.code yX6_mean cX6_mean 6 (some .int) ∈ tr_tbl := tr_in 442 (by decide +kernel) rfl
theorem yk_X6_mean : tr_yk yX6_mean (xX6_mean) 1 := ⟨cw_X6_mean, in_X6, ⟨by decide +kernel, by decide +kernel, by decide +kernel⟩, Nat.le_of_ble_eq_true rfl⟩
theorem iv_X6_mean : Cond.instanceMethod yX6_mean ∈ tr_tbl ∧ Cond.selects (yX6_mean).cls yX6_mean yX6_mean ∈ tr_tbl := ⟨tr_in 440 (by decide +kernel) rfl, tr_in 441 (by decide +kernel) rfl⟩
def mX6_mean_l52 (p1 : Int32) (M : tr_M) (r7 : Nat) (s12 : Int64 × Int32) : Option ((Int64 × Int32) ⊕ (Int64)) :=
  if s12.2 < (M.1 r7 1) then (
    Option.bind (tr_ra 6 (fun i => 62 + 2 * i) p1) (fun r13 =>
    Option.bind (tr_rd (tr_len shC (r13 + 1)) M (r13 + 1) s12.2) (fun a15 =>
    some (.inl ((s12.1 + a15.toInt64), (s12.2 + (1 : Int32))))
    )
    )
  ) else (
    some (.inr s12.1)
  )
def mX6_mean (p1 : Int32) (M : tr_M) : Option (Int32 × tr_M) :=
  if (mX6_isRow p1) = 0 then (
    some ((-1 : Int32), M)
  ) else (
    Option.bind (tr_ra 6 (fun i => 62 + 2 * i) p1) (fun r3 =>
    if (mX1_isMissing r3 M) = 0 then (
      Option.bind (tr_ra 6 (fun i => 62 + 2 * i) p1) (fun r7 =>
      if (M.1 r7 1) = 0 then (
        Option.bind (mX6_found (4 : Int32) M) (fun c9 =>
        some (c9.1, c9.2)
        )
      ) else (
        Option.bind (show Option (Int64) from
          tr_loop (mX6_mean_l52 p1 M r7) ((0 : Int64), (0 : Int32))
        ) (fun (v11 : Int64) =>
          Option.bind (tr_dvl v11 ((M.1 r7 1).toInt64)) (fun q17 =>
          Option.bind (some (tr_st M 1 12 q17.toInt32)) (fun M18 =>
          some ((1 : Int32), M18)
          )
          )
        )
      )
      )
    ) else (
      Option.bind (mX6_found (1 : Int32) M) (fun c20 =>
      some (c20.1, c20.2)
      )
    )
    )
  )
set_option maxRecDepth 100000 in
set_option maxHeartbeats 4000000 in
theorem C_X6_mean (p1 : Int32) (M : tr_M) (r : Int32 × tr_M) (h : mX6_mean p1 M = some r) : tr_I yX6_mean (xX6_mean) [.ref 1, .int p1] M (some (.int r.1)) r.2 := by
  refine tr_I.of (Z := fun q : Int32 × tr_M => (some (.int r.1) : Option Value) = some (.int q.1) ∧ r.2 = q.2) pn_X6 rfl gdC (Nat.le_of_ble_eq_true rfl) (fun Wt => ?_) h ⟨rfl, rfl⟩
  unfold mX6_mean
  refine tr_V.iload_n (i := 1) dX6_mean_0 rfl rfl ?_
  refine tr_V.callS (C_X6_isRow p1 M) yk_X6_isRow sc_X6_isRow ml_X6_84 ⟨rfl, Nat.le_of_ble_eq_true rfl⟩ rfl (Nat.le_of_ble_eq_true rfl) rfl dX6_mean_1 ?_
  refine tr_V.if_ne (tgt := 9) dX6_mean_4 (by decide) ?_ ?_
  · refine tr_V.iconst (v := (-1 : Int32)) dX6_mean_7 (by decide) ?_
    exact tr_V.iret dX6_mean_8 rfl (fun h => h)
  · refine tr_V.aload_n (i := 0) dX6_mean_9 rfl rfl ?_
    refine tr_V.getR (Nat.succ_pos _) fl_X6_11 shC_1 rfl dX6_mean_10 ?_
    refine tr_V.iload_n (i := 1) dX6_mean_13 rfl rfl ?_
    refine tr_V.bd (fun r3 h4 => ?_)
    refine tr_V.aald (ty := .object RX1) h4 shC_2 (isL_pos (isL_2 h4)) (fun _ => rfl) rfl dX6_mean_14 ?_
    refine tr_V.callV (C_X1_isMissing r3 (isL_2 h4) M) yk_X1_isMissing iv_X1_isMissing ml_X6_102 (shL (isL_2 h4)) rfl ⟨rfl, Nat.le_of_ble_eq_true rfl⟩ rfl (Nat.le_of_ble_eq_true rfl) rfl dX6_mean_15 ?_
    refine tr_V.if_eq (tgt := 27) dX6_mean_18 (by decide) ?_ ?_
    · refine tr_V.aload_n (i := 0) dX6_mean_27 rfl rfl ?_
      refine tr_V.getR (Nat.succ_pos _) fl_X6_11 shC_1 rfl dX6_mean_28 ?_
      refine tr_V.iload_n (i := 1) dX6_mean_31 rfl rfl ?_
      refine tr_V.bd (fun r7 h8 => ?_)
      refine tr_V.aald (ty := .object RX1) h8 shC_2 (isL_pos (isL_2 h8)) (fun _ => rfl) rfl dX6_mean_32 ?_
      refine tr_V.getI fl_X6_106 (shL (isL_2 h8)) rfl dX6_mean_33 ?_
      refine tr_V.istore_n (i := 2) dX6_mean_36 rfl (Nat.le_of_ble_eq_true rfl) rfl ?_
      refine tr_V.iload_n (i := 2) dX6_mean_37 rfl rfl ?_
      refine tr_V.if_ne (tgt := 47) dX6_mean_38 (by decide) ?_ ?_
      · refine tr_V.aload_n (i := 0) dX6_mean_41 rfl rfl ?_
        refine tr_V.iconst (v := (4 : Int32)) dX6_mean_42 (by decide) ?_
        refine tr_V.bd (fun c9 h10 => ?_)
        refine tr_V.callV (C_X6_found (4 : Int32) M _ h10) yk_X6_found iv_X6_found ml_X6_88 shC_1 rfl ⟨rfl, Nat.le_of_ble_eq_true rfl⟩ rfl (Nat.le_of_ble_eq_true rfl) rfl dX6_mean_43 ?_
        exact tr_V.iret dX6_mean_46 rfl (fun h => h)
      · refine tr_V.lconst (v := (0 : Int64)) dX6_mean_47 (by decide) ?_
        refine tr_V.lstore_n (i := 3) dX6_mean_48 rfl (Nat.le_of_ble_eq_true rfl) rfl ?_
        refine tr_V.iconst (v := (0 : Int32)) dX6_mean_49 (by decide) ?_
        refine tr_V.istore (i := 5) dX6_mean_50 (Nat.le_of_ble_eq_true rfl) rfl ?_
        refine tr_V.seq (τ := Int64) (pc' := 80) (L := fun v11 => [(0, some (.ref 1)), (2, some (.int (M.1 r7 1))), (3, some (.long v11))]) (S := fun v11 => []) (Mf := fun v11 => M) ?_ ?_
        · refine tr_V.loop (σ := Int64 × Int32) (step := mX6_mean_l52 p1 M r7) (L := fun s12 => [(0, some (.ref 1)), (1, some (.int p1)), (2, some (.int (M.1 r7 1))), (3, some (.long s12.1)), (5, some (.int s12.2))]) (Mf := fun s12 => M) ?_ ((0 : Int64), (0 : Int32)) ⟨rfl, rfl, rfl, rfl, rfl, trivial⟩
          intro s12
          refine tr_V.iload dX6_mean_52 rfl ?_
          refine tr_V.iload_n (i := 2) dX6_mean_54 rfl rfl ?_
          refine tr_V.icmp_ge (tgt := 80) dX6_mean_55 (by decide) ?_ ?_
          · refine tr_V.lload_n (i := 3) dX6_mean_58 rfl rfl ?_
            refine tr_V.aload_n (i := 0) dX6_mean_59 rfl rfl ?_
            refine tr_V.getR (Nat.succ_pos _) fl_X6_11 shC_1 rfl dX6_mean_60 ?_
            refine tr_V.iload_n (i := 1) dX6_mean_63 rfl rfl ?_
            refine tr_V.bd (fun r13 h14 => ?_)
            refine tr_V.aald (ty := .object RX1) h14 shC_2 (isL_pos (isL_2 h14)) (fun _ => rfl) rfl dX6_mean_64 ?_
            refine tr_V.getR (Nat.succ_pos _) fl_X6_99 (shL (isL_2 h14)) rfl dX6_mean_65 ?_
            refine tr_V.iload dX6_mean_68 rfl ?_
            refine tr_V.bd (fun a15 h16 => ?_)
            refine tr_V.ialdL h16 dX6_mean_70 ?_
            refine tr_V.i2l dX6_mean_71 ?_
            refine tr_V.ladd dX6_mean_72 ?_
            refine tr_V.lstore_n (i := 3) dX6_mean_73 rfl (Nat.le_of_ble_eq_true rfl) rfl ?_
            refine tr_V.iinc (cst := (1 : Int32)) dX6_mean_74 rfl (by decide) rfl ?_
            refine tr_V.goto (tgt := 52) dX6_mean_77 (by decide) ?_
            exact tr_V.to (fun h => h) ⟨rfl, rfl, rfl, rfl, rfl, trivial⟩
          · exact tr_V.to (fun h => h) ⟨rfl, rfl, rfl, trivial⟩
        · intro v11
          refine tr_V.aload_n (i := 0) dX6_mean_80 rfl rfl ?_
          refine tr_V.lload_n (i := 3) dX6_mean_81 rfl rfl ?_
          refine tr_V.iload_n (i := 2) dX6_mean_82 rfl rfl ?_
          refine tr_V.i2l dX6_mean_83 ?_
          refine tr_V.ldiv dX6_mean_84 (fun q17 => ?_)
          refine tr_V.l2i dX6_mean_85 ?_
          refine tr_V.bd (fun M18 h19 => ?_)
          refine tr_V.putI fl_X6_64 shC_1 rfl dX6_mean_86 h19 ?_
          refine tr_V.iconst (v := (1 : Int32)) dX6_mean_89 (by decide) ?_
          exact tr_V.iret dX6_mean_90 rfl (fun h => h)
    · refine tr_V.aload_n (i := 0) dX6_mean_21 rfl rfl ?_
      refine tr_V.iconst (v := (1 : Int32)) dX6_mean_22 (by decide) ?_
      refine tr_V.bd (fun c20 h21 => ?_)
      refine tr_V.callV (C_X6_found (1 : Int32) M _ h21) yk_X6_found iv_X6_found ml_X6_88 shC_1 rfl ⟨rfl, Nat.le_of_ble_eq_true rfl⟩ rfl (Nat.le_of_ble_eq_true rfl) rfl dX6_mean_23 ?_
      exact tr_V.iret dX6_mean_26 rfl (fun h => h)
abbrev xX6_isText : tr_X := (cX6_isText, 1, RX6, (some .boolean), 1, shC, 81)
theorem cw_X6_isText : Cond.code yX6_isText cX6_isText 1 (some .boolean) ∈ tr_tbl := tr_in 449 (by decide +kernel) rfl
theorem yk_X6_isText : tr_yk yX6_isText (xX6_isText) 1 := ⟨cw_X6_isText, in_X6, ⟨by decide +kernel, by decide +kernel, by decide +kernel⟩, Nat.le_of_ble_eq_true rfl⟩
theorem sc_X6_isText : Cond.static yX6_isText ∈ tr_tbl := tr_in 448 (by decide +kernel) rfl
def mX6_isText' (p0 : Int32) : Option Int32 :=
  if p0 < 0 then (
    some (0 : Int32)
  ) else (
    if p0 < (4 : Int32) then (
      some (1 : Int32)
    ) else (
      some (0 : Int32)
    )
  )
def mX6_isText (p0 : Int32) : Int32 :=
  if p0 < 0 then (
    (0 : Int32)
  ) else (
    if p0 < (4 : Int32) then (
      (1 : Int32)
    ) else (
      (0 : Int32)
    )
  )
theorem mX6_isText_eq (p0 : Int32) : mX6_isText' p0 = some (mX6_isText p0) := by
  unfold mX6_isText' mX6_isText
  repeat' split
  all_goals rfl
set_option maxRecDepth 100000 in
set_option maxHeartbeats 4000000 in
theorem C_X6_isText (p0 : Int32) (M : tr_M) : tr_I yX6_isText (xX6_isText) [.int p0] M (some (.int (mX6_isText p0))) M := by
  refine tr_I.of (Z := fun q : Int32 => (some (.int (mX6_isText p0)) : Option Value) = some (.int q) ∧ M = M) pn_X6 rfl gdC (Nat.le_of_ble_eq_true rfl) (fun Wt => ?_) (mX6_isText_eq p0) ⟨rfl, rfl⟩
  unfold mX6_isText'
  refine tr_V.iload_n (i := 0) dX6_isText_0 rfl rfl ?_
  refine tr_V.if_lt (tgt := 13) dX6_isText_1 (by decide) ?_ ?_
  · refine tr_V.iconst (v := (0 : Int32)) dX6_isText_13 (by decide) ?_
    exact tr_V.zret (by decide) dX6_isText_14 rfl (fun h => h)
  · refine tr_V.iload_n (i := 0) dX6_isText_4 rfl rfl ?_
    refine tr_V.iconst (v := (4 : Int32)) dX6_isText_5 (by decide) ?_
    refine tr_V.icmp_ge (tgt := 13) dX6_isText_6 (by decide) ?_ ?_
    · refine tr_V.iconst (v := (1 : Int32)) dX6_isText_9 (by decide) ?_
      refine tr_V.goto (tgt := 14) dX6_isText_10 (by decide) ?_
      exact tr_V.zret (by decide) dX6_isText_14 rfl (fun h => h)
    · refine tr_V.iconst (v := (0 : Int32)) dX6_isText_13 (by decide) ?_
      exact tr_V.zret (by decide) dX6_isText_14 rfl (fun h => h)
abbrev xX6_text : tr_X := (cX6_text, 3, RX6, (some .int), 4, shC, 81)
theorem cw_X6_text : Cond.code yX6_text cX6_text 3 (some .int) ∈ tr_tbl := tr_in 446 (by decide +kernel) rfl
theorem yk_X6_text : tr_yk yX6_text (xX6_text) 2 := ⟨cw_X6_text, in_X6, ⟨by decide +kernel, by decide +kernel, by decide +kernel⟩, Nat.le_of_ble_eq_true rfl⟩
theorem iv_X6_text : Cond.instanceMethod yX6_text ∈ tr_tbl ∧ Cond.selects (yX6_text).cls yX6_text yX6_text ∈ tr_tbl := ⟨tr_in 444 (by decide +kernel) rfl, tr_in 445 (by decide +kernel) rfl⟩
def mX6_text (p1 : Int32) (p2 : Int32) (M : tr_M) : Option (Int32 × tr_M) :=
  if (mX6_isText p1) = 0 then (
    some ((-1 : Int32), M)
  ) else (
    if (120 : Int32) < p2 then (
      some ((-1 : Int32), M)
    ) else (
      if p2 < 0 then (
        Option.bind (mX6_found (5 : Int32) M) (fun c3 =>
        some (c3.1, c3.2)
        )
      ) else (
        Option.bind (tr_ra 4 (fun i => 74 + 2 * i) p1) (fun r5 =>
        Option.bind (mX1_make r5 p2 (32 : Int32) M) (fun c7 =>
        some (p2, c7)
        )
        )
      )
    )
  )
set_option maxRecDepth 100000 in
set_option maxHeartbeats 4000000 in
theorem C_X6_text (p1 : Int32) (p2 : Int32) (M : tr_M) (r : Int32 × tr_M) (h : mX6_text p1 p2 M = some r) : tr_I yX6_text (xX6_text) [.ref 1, .int p1, .int p2] M (some (.int r.1)) r.2 := by
  refine tr_I.of (Z := fun q : Int32 × tr_M => (some (.int r.1) : Option Value) = some (.int q.1) ∧ r.2 = q.2) pn_X6 rfl gdC (Nat.le_of_ble_eq_true rfl) (fun Wt => ?_) h ⟨rfl, rfl⟩
  unfold mX6_text
  refine tr_V.iload_n (i := 1) dX6_text_0 rfl rfl ?_
  refine tr_V.callS (C_X6_isText p1 M) yk_X6_isText sc_X6_isText ml_X6_119 ⟨rfl, Nat.le_of_ble_eq_true rfl⟩ rfl (Nat.le_of_ble_eq_true rfl) rfl dX6_text_1 ?_
  refine tr_V.if_eq (tgt := 13) dX6_text_4 (by decide) ?_ ?_
  · refine tr_V.iconst (v := (-1 : Int32)) dX6_text_13 (by decide) ?_
    exact tr_V.iret dX6_text_14 rfl (fun h => h)
  · refine tr_V.iload_n (i := 2) dX6_text_7 rfl rfl ?_
    refine tr_V.bipush (v := (120 : Int32)) dX6_text_8 (by decide) ?_
    refine tr_V.icmp_le (tgt := 15) dX6_text_10 (by decide) ?_ ?_
    · refine tr_V.iconst (v := (-1 : Int32)) dX6_text_13 (by decide) ?_
      exact tr_V.iret dX6_text_14 rfl (fun h => h)
    · refine tr_V.iload_n (i := 2) dX6_text_15 rfl rfl ?_
      refine tr_V.if_ge (tgt := 25) dX6_text_16 (by decide) ?_ ?_
      · refine tr_V.aload_n (i := 0) dX6_text_19 rfl rfl ?_
        refine tr_V.iconst (v := (5 : Int32)) dX6_text_20 (by decide) ?_
        refine tr_V.bd (fun c3 h4 => ?_)
        refine tr_V.callV (C_X6_found (5 : Int32) M _ h4) yk_X6_found iv_X6_found ml_X6_88 shC_1 rfl ⟨rfl, Nat.le_of_ble_eq_true rfl⟩ rfl (Nat.le_of_ble_eq_true rfl) rfl dX6_text_21 ?_
        exact tr_V.iret dX6_text_24 rfl (fun h => h)
      · refine tr_V.aload_n (i := 0) dX6_text_25 rfl rfl ?_
        refine tr_V.getR (Nat.succ_pos _) fl_X6_15 shC_1 rfl dX6_text_26 ?_
        refine tr_V.iload_n (i := 1) dX6_text_29 rfl rfl ?_
        refine tr_V.bd (fun r5 h6 => ?_)
        refine tr_V.aald (ty := .object RX1) h6 shC_3 (isL_pos (isL_3 h6)) (fun _ => rfl) rfl dX6_text_30 ?_
        refine tr_V.iload_n (i := 2) dX6_text_31 rfl rfl ?_
        refine tr_V.bipush (v := (32 : Int32)) dX6_text_32 (by decide) ?_
        refine tr_V.bd (fun c7 h8 => ?_)
        refine tr_V.callV (C_X1_make r5 (isL_3 h6) p2 (32 : Int32) M _ h8) yk_X1_make iv_X1_make ml_X6_92 (shL (isL_3 h6)) rfl ⟨rfl, Nat.le_of_ble_eq_true rfl⟩ rfl (Nat.le_of_ble_eq_true rfl) rfl dX6_text_34 ?_
        refine tr_V.iload_n (i := 2) dX6_text_37 rfl rfl ?_
        exact tr_V.iret dX6_text_38 rfl (fun h => h)
abbrev xX6_put : tr_X := (cX6_put, 6, RX6, (some .int), 3, shC, 81)
theorem cw_X6_put : Cond.code yX6_put cX6_put 6 (some .int) ∈ tr_tbl := tr_in 453 (by decide +kernel) rfl
theorem yk_X6_put : tr_yk yX6_put (xX6_put) 3 := ⟨cw_X6_put, in_X6, ⟨by decide +kernel, by decide +kernel, by decide +kernel⟩, Nat.le_of_ble_eq_true rfl⟩
theorem iv_X6_put : Cond.instanceMethod yX6_put ∈ tr_tbl ∧ Cond.selects (yX6_put).cls yX6_put yX6_put ∈ tr_tbl := ⟨tr_in 451 (by decide +kernel) rfl, tr_in 452 (by decide +kernel) rfl⟩
def mX6_put (p1 : Int32) (p2 : Int32) (p3 : Int32) (M : tr_M) : Option (Int32 × tr_M) :=
  if (mX6_isText p1) = 0 then (
    some ((-1 : Int32), M)
  ) else (
    Option.bind (tr_ra 4 (fun i => 74 + 2 * i) p1) (fun r3 =>
    if (mX1_faultAt r3 p2 M) = 0 then (
      Option.bind (tr_ra 4 (fun i => 74 + 2 * i) p1) (fun r7 =>
      Option.bind (tr_rd (tr_len shC (r7 + 1)) M (r7 + 1) p2) (fun a9 =>
      Option.bind (tr_ra 4 (fun i => 74 + 2 * i) p1) (fun r11 =>
      Option.bind (tr_wr (tr_len shC (r11 + 1)) M (r11 + 1) p2 p3.toInt8.toInt32) (fun M13 =>
      some ((a9 + (1000 : Int32)), M13)
      )
      )
      )
      )
    ) else (
      Option.bind (mX6_found (mX1_faultAt r3 p2 M) M) (fun c15 =>
      some (c15.1, c15.2)
      )
    )
    )
  )
set_option maxRecDepth 100000 in
set_option maxHeartbeats 4000000 in
theorem C_X6_put (p1 : Int32) (p2 : Int32) (p3 : Int32) (M : tr_M) (r : Int32 × tr_M) (h : mX6_put p1 p2 p3 M = some r) : tr_I yX6_put (xX6_put) [.ref 1, .int p1, .int p2, .int p3] M (some (.int r.1)) r.2 := by
  refine tr_I.of (Z := fun q : Int32 × tr_M => (some (.int r.1) : Option Value) = some (.int q.1) ∧ r.2 = q.2) pn_X6 rfl gdC (Nat.le_of_ble_eq_true rfl) (fun Wt => ?_) h ⟨rfl, rfl⟩
  unfold mX6_put
  refine tr_V.iload_n (i := 1) dX6_put_0 rfl rfl ?_
  refine tr_V.callS (C_X6_isText p1 M) yk_X6_isText sc_X6_isText ml_X6_119 ⟨rfl, Nat.le_of_ble_eq_true rfl⟩ rfl (Nat.le_of_ble_eq_true rfl) rfl dX6_put_1 ?_
  refine tr_V.if_ne (tgt := 9) dX6_put_4 (by decide) ?_ ?_
  · refine tr_V.iconst (v := (-1 : Int32)) dX6_put_7 (by decide) ?_
    exact tr_V.iret dX6_put_8 rfl (fun h => h)
  · refine tr_V.aload_n (i := 0) dX6_put_9 rfl rfl ?_
    refine tr_V.getR (Nat.succ_pos _) fl_X6_15 shC_1 rfl dX6_put_10 ?_
    refine tr_V.iload_n (i := 1) dX6_put_13 rfl rfl ?_
    refine tr_V.bd (fun r3 h4 => ?_)
    refine tr_V.aald (ty := .object RX1) h4 shC_3 (isL_pos (isL_3 h4)) (fun _ => rfl) rfl dX6_put_14 ?_
    refine tr_V.iload_n (i := 2) dX6_put_15 rfl rfl ?_
    refine tr_V.callV (C_X1_faultAt r3 (isL_3 h4) p2 M) yk_X1_faultAt iv_X1_faultAt ml_X6_96 (shL (isL_3 h4)) rfl ⟨rfl, Nat.le_of_ble_eq_true rfl⟩ rfl (Nat.le_of_ble_eq_true rfl) rfl dX6_put_16 ?_
    refine tr_V.istore (i := 4) dX6_put_19 (Nat.le_of_ble_eq_true rfl) rfl ?_
    refine tr_V.iload dX6_put_21 rfl ?_
    refine tr_V.if_eq (tgt := 33) dX6_put_23 (by decide) ?_ ?_
    · refine tr_V.aload_n (i := 0) dX6_put_33 rfl rfl ?_
      refine tr_V.getR (Nat.succ_pos _) fl_X6_15 shC_1 rfl dX6_put_34 ?_
      refine tr_V.iload_n (i := 1) dX6_put_37 rfl rfl ?_
      refine tr_V.bd (fun r7 h8 => ?_)
      refine tr_V.aald (ty := .object RX1) h8 shC_3 (isL_pos (isL_3 h8)) (fun _ => rfl) rfl dX6_put_38 ?_
      refine tr_V.getR (Nat.succ_pos _) fl_X6_99 (shL (isL_3 h8)) rfl dX6_put_39 ?_
      refine tr_V.iload_n (i := 2) dX6_put_42 rfl rfl ?_
      refine tr_V.bd (fun a9 h10 => ?_)
      refine tr_V.ialdL h10 dX6_put_43 ?_
      refine tr_V.istore (i := 5) dX6_put_44 (Nat.le_of_ble_eq_true rfl) rfl ?_
      refine tr_V.aload_n (i := 0) dX6_put_46 rfl rfl ?_
      refine tr_V.getR (Nat.succ_pos _) fl_X6_15 shC_1 rfl dX6_put_47 ?_
      refine tr_V.iload_n (i := 1) dX6_put_50 rfl rfl ?_
      refine tr_V.bd (fun r11 h12 => ?_)
      refine tr_V.aald (ty := .object RX1) h12 shC_3 (isL_pos (isL_3 h12)) (fun _ => rfl) rfl dX6_put_51 ?_
      refine tr_V.getR (Nat.succ_pos _) fl_X6_99 (shL (isL_3 h12)) rfl dX6_put_52 ?_
      refine tr_V.iload_n (i := 2) dX6_put_55 rfl rfl ?_
      refine tr_V.iload_n (i := 3) dX6_put_56 rfl rfl ?_
      refine tr_V.i2b dX6_put_57 ?_
      refine tr_V.bd (fun M13 h14 => ?_)
      refine tr_V.iastL h14 dX6_put_58 ?_
      refine tr_V.iload dX6_put_59 rfl ?_
      refine tr_V.sipush (v := (1000 : Int32)) dX6_put_61 (by decide) ?_
      refine tr_V.iadd dX6_put_64 ?_
      exact tr_V.iret dX6_put_65 rfl (fun h => h)
    · refine tr_V.aload_n (i := 0) dX6_put_26 rfl rfl ?_
      refine tr_V.iload dX6_put_27 rfl ?_
      refine tr_V.bd (fun c15 h16 => ?_)
      refine tr_V.callV (C_X6_found (mX1_faultAt r3 p2 M) M _ h16) yk_X6_found iv_X6_found ml_X6_88 shC_1 rfl ⟨rfl, Nat.le_of_ble_eq_true rfl⟩ rfl (Nat.le_of_ble_eq_true rfl) rfl dX6_put_29 ?_
      exact tr_V.iret dX6_put_32 rfl (fun h => h)
abbrev xX6_fault : tr_X := (cX6_fault, 2, RX6, (some .int), 6, shC, 81)
theorem cw_X6_fault : Cond.code yX6_fault cX6_fault 2 (some .int) ∈ tr_tbl := tr_in 457 (by decide +kernel) rfl
theorem yk_X6_fault : tr_yk yX6_fault (xX6_fault) 1 := ⟨cw_X6_fault, in_X6, ⟨by decide +kernel, by decide +kernel, by decide +kernel⟩, Nat.le_of_ble_eq_true rfl⟩
theorem iv_X6_fault : Cond.instanceMethod yX6_fault ∈ tr_tbl ∧ Cond.selects (yX6_fault).cls yX6_fault yX6_fault ∈ tr_tbl := ⟨tr_in 455 (by decide +kernel) rfl, tr_in 456 (by decide +kernel) rfl⟩
def mX6_fault (p1 : Int32) (M : tr_M) : Option (Int32 × tr_M) :=
  if (mX6_isText p1) = 0 then (
    some ((-1 : Int32), M)
  ) else (
    Option.bind (tr_ra 4 (fun i => 74 + 2 * i) p1) (fun r3 =>
    if (mX1_isMissing r3 M) = 0 then (
      Option.bind (tr_ra 4 (fun i => 74 + 2 * i) p1) (fun r7 =>
      Option.bind (mX3_read r7 M) (fun c9 =>
      some (c9.1, c9.2)
      )
      )
    ) else (
      Option.bind (mX6_found (1 : Int32) M) (fun c11 =>
      some (c11.1, c11.2)
      )
    )
    )
  )
set_option maxRecDepth 100000 in
set_option maxHeartbeats 4000000 in
theorem C_X6_fault (p1 : Int32) (M : tr_M) (r : Int32 × tr_M) (h : mX6_fault p1 M = some r) : tr_I yX6_fault (xX6_fault) [.ref 1, .int p1] M (some (.int r.1)) r.2 := by
  refine tr_I.of (Z := fun q : Int32 × tr_M => (some (.int r.1) : Option Value) = some (.int q.1) ∧ r.2 = q.2) pn_X6 rfl gdC (Nat.le_of_ble_eq_true rfl) (fun Wt => ?_) h ⟨rfl, rfl⟩
  unfold mX6_fault
  refine tr_V.iload_n (i := 1) dX6_fault_0 rfl rfl ?_
  refine tr_V.callS (C_X6_isText p1 M) yk_X6_isText sc_X6_isText ml_X6_119 ⟨rfl, Nat.le_of_ble_eq_true rfl⟩ rfl (Nat.le_of_ble_eq_true rfl) rfl dX6_fault_1 ?_
  refine tr_V.if_ne (tgt := 9) dX6_fault_4 (by decide) ?_ ?_
  · refine tr_V.iconst (v := (-1 : Int32)) dX6_fault_7 (by decide) ?_
    exact tr_V.iret dX6_fault_8 rfl (fun h => h)
  · refine tr_V.aload_n (i := 0) dX6_fault_9 rfl rfl ?_
    refine tr_V.getR (Nat.succ_pos _) fl_X6_15 shC_1 rfl dX6_fault_10 ?_
    refine tr_V.iload_n (i := 1) dX6_fault_13 rfl rfl ?_
    refine tr_V.bd (fun r3 h4 => ?_)
    refine tr_V.aald (ty := .object RX1) h4 shC_3 (isL_pos (isL_3 h4)) (fun _ => rfl) rfl dX6_fault_14 ?_
    refine tr_V.callV (C_X1_isMissing r3 (isL_3 h4) M) yk_X1_isMissing iv_X1_isMissing ml_X6_102 (shL (isL_3 h4)) rfl ⟨rfl, Nat.le_of_ble_eq_true rfl⟩ rfl (Nat.le_of_ble_eq_true rfl) rfl dX6_fault_15 ?_
    refine tr_V.if_eq (tgt := 27) dX6_fault_18 (by decide) ?_ ?_
    · refine tr_V.aload_n (i := 0) dX6_fault_27 rfl rfl ?_
      refine tr_V.getR (Nat.succ_pos _) fl_X6_21 shC_1 rfl dX6_fault_28 ?_
      refine tr_V.aload_n (i := 0) dX6_fault_31 rfl rfl ?_
      refine tr_V.getR (Nat.succ_pos _) fl_X6_15 shC_1 rfl dX6_fault_32 ?_
      refine tr_V.iload_n (i := 1) dX6_fault_35 rfl rfl ?_
      refine tr_V.bd (fun r7 h8 => ?_)
      refine tr_V.aald (ty := .object RX1) h8 shC_3 (isL_pos (isL_3 h8)) (fun _ => rfl) rfl dX6_fault_36 ?_
      refine tr_V.bd (fun c9 h10 => ?_)
      refine tr_V.callV (C_X3_read r7 (isL_3 h8) M _ h10) yk_X3_read iv_X3_read ml_X6_122 shC_4 rfl ⟨rfl, Nat.le_of_ble_eq_true rfl⟩ rfl (Nat.le_of_ble_eq_true rfl) rfl dX6_fault_37 ?_
      exact tr_V.iret dX6_fault_40 rfl (fun h => h)
    · refine tr_V.aload_n (i := 0) dX6_fault_21 rfl rfl ?_
      refine tr_V.iconst (v := (1 : Int32)) dX6_fault_22 (by decide) ?_
      refine tr_V.bd (fun c11 h12 => ?_)
      refine tr_V.callV (C_X6_found (1 : Int32) M _ h12) yk_X6_found iv_X6_found ml_X6_88 shC_1 rfl ⟨rfl, Nat.le_of_ble_eq_true rfl⟩ rfl (Nat.le_of_ble_eq_true rfl) rfl dX6_fault_23 ?_
      exact tr_V.iret dX6_fault_26 rfl (fun h => h)
abbrev xX6_forget : tr_X := (cX6_forget, 1, RX6, (Option.none : Option Jvm.ClassFile.FieldType), 1, shC, 81)
theorem cw_X6_forget : Cond.code yX6_forget cX6_forget 1 (Option.none : Option Jvm.ClassFile.FieldType) ∈ tr_tbl := tr_in 542 (by decide +kernel) rfl
theorem yk_X6_forget : tr_yk yX6_forget (xX6_forget) 0 := ⟨cw_X6_forget, in_X6, ⟨by decide +kernel, by decide +kernel, by decide +kernel⟩, Nat.le_of_ble_eq_true rfl⟩
theorem iv_X6_forget : Cond.instanceMethod yX6_forget ∈ tr_tbl ∧ Cond.selects (yX6_forget).cls yX6_forget yX6_forget ∈ tr_tbl := ⟨tr_in 541 (by decide +kernel) rfl, tr_in 12 (by decide +kernel) rfl⟩
def mX6_forget  (M : tr_M) : Option (tr_M) :=
  Option.bind (some (tr_st M 1 15 (-9 : Int32))) (fun M1 =>
  Option.bind (some (tr_st M1 1 16 (nI 0))) (fun M3 =>
  some M3
  )
  )
set_option maxRecDepth 100000 in
set_option maxHeartbeats 4000000 in
theorem C_X6_forget  (M M' : tr_M) (h : mX6_forget M = some M') : tr_I yX6_forget (xX6_forget) [.ref 1] M none M' := by
  refine tr_I.of (Z := fun q : tr_M => (none : Option Value) = none ∧ M' = q) pn_X6 rfl gdC (Nat.le_of_ble_eq_true rfl) (fun Wt => ?_) h ⟨rfl, rfl⟩
  unfold mX6_forget
  refine tr_V.aload_n (i := 0) dX6_forget_0 rfl rfl ?_
  refine tr_V.bipush (v := (-9 : Int32)) dX6_forget_1 (by decide) ?_
  refine tr_V.bd (fun M1 h2 => ?_)
  refine tr_V.putI fl_X6_74 shC_1 rfl dX6_forget_3 h2 ?_
  refine tr_V.aload_n (i := 0) dX6_forget_6 rfl rfl ?_
  refine tr_V.null dX6_forget_7 ?_
  refine tr_V.bd (fun M3 h4 => ?_)
  refine tr_V.putM (by decide) fl_X6_77 shC_1 rfl dX6_forget_8 h4 ?_
  exact tr_V.vret dX6_forget_11 rfl (fun h => h)
abbrev xX6_world : tr_X := (cX6_world, 2, RX6, (some .int), 6, shC, 81)
theorem cw_X6_world : Cond.code yX6_world cX6_world 2 (some .int) ∈ tr_tbl := tr_in 531 (by decide +kernel) rfl
theorem yk_X6_world : tr_yk yX6_world (xX6_world) 1 := ⟨cw_X6_world, in_X6, ⟨by decide +kernel, by decide +kernel, by decide +kernel⟩, Nat.le_of_ble_eq_true rfl⟩
theorem iv_X6_world : Cond.instanceMethod yX6_world ∈ tr_tbl ∧ Cond.selects (yX6_world).cls yX6_world yX6_world ∈ tr_tbl := ⟨tr_in 529 (by decide +kernel) rfl, tr_in 530 (by decide +kernel) rfl⟩
def mX6_world (p1 : Int32) (M : tr_M) : Option (Int32 × tr_M) :=
  if (mX6_isText p1) = 0 then (
    some ((-1 : Int32), M)
  ) else (
    Option.bind (tr_ra 4 (fun i => 74 + 2 * i) p1) (fun r3 =>
    if (mX1_isMissing r3 M) = 0 then (
      Option.bind (tr_ra 4 (fun i => 74 + 2 * i) p1) (fun r7 =>
      Option.bind (mX3_read r7 M) (fun c9 =>
      if c9.1 = (-9 : Int32) then (
        Option.bind (mX5_take 26 5 c9.2) (fun c11 =>
        Option.bind (mX6_forget c11) (fun c13 =>
        some ((c13.1 26 0), c13)
        )
        )
      ) else (
        some ((-4 : Int32), c9.2)
      )
      )
      )
    ) else (
      Option.bind (mX6_found (1 : Int32) M) (fun c15 =>
      some (c15.1, c15.2)
      )
    )
    )
  )
set_option maxRecDepth 100000 in
set_option maxHeartbeats 4000000 in
theorem C_X6_world (p1 : Int32) (M : tr_M) (r : Int32 × tr_M) (h : mX6_world p1 M = some r) : tr_I yX6_world (xX6_world) [.ref 1, .int p1] M (some (.int r.1)) r.2 := by
  refine tr_I.of (Z := fun q : Int32 × tr_M => (some (.int r.1) : Option Value) = some (.int q.1) ∧ r.2 = q.2) pn_X6 rfl gdC (Nat.le_of_ble_eq_true rfl) (fun Wt => ?_) h ⟨rfl, rfl⟩
  unfold mX6_world
  refine tr_V.iload_n (i := 1) dX6_world_0 rfl rfl ?_
  refine tr_V.callS (C_X6_isText p1 M) yk_X6_isText sc_X6_isText ml_X6_119 ⟨rfl, Nat.le_of_ble_eq_true rfl⟩ rfl (Nat.le_of_ble_eq_true rfl) rfl dX6_world_1 ?_
  refine tr_V.if_ne (tgt := 9) dX6_world_4 (by decide) ?_ ?_
  · refine tr_V.iconst (v := (-1 : Int32)) dX6_world_7 (by decide) ?_
    exact tr_V.iret dX6_world_8 rfl (fun h => h)
  · refine tr_V.aload_n (i := 0) dX6_world_9 rfl rfl ?_
    refine tr_V.getR (Nat.succ_pos _) fl_X6_15 shC_1 rfl dX6_world_10 ?_
    refine tr_V.iload_n (i := 1) dX6_world_13 rfl rfl ?_
    refine tr_V.bd (fun r3 h4 => ?_)
    refine tr_V.aald (ty := .object RX1) h4 shC_3 (isL_pos (isL_3 h4)) (fun _ => rfl) rfl dX6_world_14 ?_
    refine tr_V.callV (C_X1_isMissing r3 (isL_3 h4) M) yk_X1_isMissing iv_X1_isMissing ml_X6_102 (shL (isL_3 h4)) rfl ⟨rfl, Nat.le_of_ble_eq_true rfl⟩ rfl (Nat.le_of_ble_eq_true rfl) rfl dX6_world_15 ?_
    refine tr_V.if_eq (tgt := 27) dX6_world_18 (by decide) ?_ ?_
    · refine tr_V.aload_n (i := 0) dX6_world_27 rfl rfl ?_
      refine tr_V.getR (Nat.succ_pos _) fl_X6_21 shC_1 rfl dX6_world_28 ?_
      refine tr_V.aload_n (i := 0) dX6_world_31 rfl rfl ?_
      refine tr_V.getR (Nat.succ_pos _) fl_X6_15 shC_1 rfl dX6_world_32 ?_
      refine tr_V.iload_n (i := 1) dX6_world_35 rfl rfl ?_
      refine tr_V.bd (fun r7 h8 => ?_)
      refine tr_V.aald (ty := .object RX1) h8 shC_3 (isL_pos (isL_3 h8)) (fun _ => rfl) rfl dX6_world_36 ?_
      refine tr_V.bd (fun c9 h10 => ?_)
      refine tr_V.callV (C_X3_read r7 (isL_3 h8) M _ h10) yk_X3_read iv_X3_read ml_X6_122 shC_4 rfl ⟨rfl, Nat.le_of_ble_eq_true rfl⟩ rfl (Nat.le_of_ble_eq_true rfl) rfl dX6_world_37 ?_
      refine tr_V.bipush (v := (-9 : Int32)) dX6_world_40 (by decide) ?_
      refine tr_V.icmp_eq (tgt := 48) dX6_world_42 (by decide) ?_ ?_
      · refine tr_V.aload_n (i := 0) dX6_world_48 rfl rfl ?_
        refine tr_V.getR (Nat.succ_pos _) fl_X6_43 shC_1 rfl dX6_world_49 ?_
        refine tr_V.aload_n (i := 0) dX6_world_52 rfl rfl ?_
        refine tr_V.getR (Nat.succ_pos _) fl_X6_21 shC_1 rfl dX6_world_53 ?_
        refine tr_V.getR (Nat.succ_pos _) fl_X6_126 shC_4 rfl dX6_world_56 ?_
        refine tr_V.bd (fun c11 h12 => ?_)
        refine tr_V.callV (C_X5_take 26 isW_26 5 isW_5 c9.2 _ h12) yk_X5_take iv_X5_take ml_X6_127 shC_26 rfl ⟨rfl, Nat.le_of_ble_eq_true rfl⟩ rfl (Nat.le_of_ble_eq_true rfl) rfl dX6_world_59 ?_
        refine tr_V.aload_n (i := 0) dX6_world_62 rfl rfl ?_
        refine tr_V.bd (fun c13 h14 => ?_)
        refine tr_V.callV (C_X6_forget c11 _ h14) yk_X6_forget iv_X6_forget ml_X6_133 shC_1 rfl ⟨rfl, Nat.le_of_ble_eq_true rfl⟩ rfl (Nat.le_of_ble_eq_true rfl) rfl dX6_world_63 ?_
        refine tr_V.aload_n (i := 0) dX6_world_66 rfl rfl ?_
        refine tr_V.getR (Nat.succ_pos _) fl_X6_43 shC_1 rfl dX6_world_67 ?_
        refine tr_V.getI fl_X6_136 shC_26 rfl dX6_world_70 ?_
        exact tr_V.iret dX6_world_73 rfl (fun h => h)
      · refine tr_V.bipush (v := (-4 : Int32)) dX6_world_45 (by decide) ?_
        exact tr_V.iret dX6_world_47 rfl (fun h => h)
    · refine tr_V.aload_n (i := 0) dX6_world_21 rfl rfl ?_
      refine tr_V.iconst (v := (1 : Int32)) dX6_world_22 (by decide) ?_
      refine tr_V.bd (fun c15 h16 => ?_)
      refine tr_V.callV (C_X6_found (1 : Int32) M _ h16) yk_X6_found iv_X6_found ml_X6_88 shC_1 rfl ⟨rfl, Nat.le_of_ble_eq_true rfl⟩ rfl (Nat.le_of_ble_eq_true rfl) rfl dX6_world_23 ?_
      exact tr_V.iret dX6_world_26 rfl (fun h => h)
abbrev xX6_tie : tr_X := (cX6_tie, 5, RX6, (some .int), 3, shC, 81)
theorem cw_X6_tie : Cond.code yX6_tie cX6_tie 5 (some .int) ∈ tr_tbl := tr_in 546 (by decide +kernel) rfl
theorem yk_X6_tie : tr_yk yX6_tie (xX6_tie) 3 := ⟨cw_X6_tie, in_X6, ⟨by decide +kernel, by decide +kernel, by decide +kernel⟩, Nat.le_of_ble_eq_true rfl⟩
theorem iv_X6_tie : Cond.instanceMethod yX6_tie ∈ tr_tbl ∧ Cond.selects (yX6_tie).cls yX6_tie yX6_tie ∈ tr_tbl := ⟨tr_in 544 (by decide +kernel) rfl, tr_in 545 (by decide +kernel) rfl⟩
def mX6_tie (p1 : Int32) (p2 : Int32) (p3 : Int32) (M : tr_M) : Option (Int32 × tr_M) :=
  if (mX5_areUnlike 26 p1 p2 M) = 0 then (
    some ((-1 : Int32), M)
  ) else (
    Option.bind (show Option ((Unit) ⊕ (Int32 × tr_M)) from
      if p3 = (-9 : Int32) then (
        some (.inl ())
      ) else (
        if p3 < 0 then (
          some (.inr ((-1 : Int32), M))
        ) else (
          if (9 : Int32) < p3 then (
            some (.inr ((-1 : Int32), M))
          ) else (
            some (.inl ())
          )
        )
      )
    ) (tr_el (fun (v3 : Unit) =>
      Option.bind (tr_ra 10 (fun i => 28 + i) p1) (fun r4 =>
      Option.bind (tr_rd 10 M r4 p2) (fun a6 =>
      if p3 = (-9 : Int32) then (
        some (a6, M)
      ) else (
        Option.bind (mX5_setTie 26 p1 p2 p3 M) (fun c8 =>
        Option.bind (mX6_forget c8) (fun c10 =>
        some (a6, c10)
        )
        )
      )
      )
      )
    ))
  )
set_option maxRecDepth 100000 in
set_option maxHeartbeats 4000000 in
theorem C_X6_tie (p1 : Int32) (p2 : Int32) (p3 : Int32) (M : tr_M) (r : Int32 × tr_M) (h : mX6_tie p1 p2 p3 M = some r) : tr_I yX6_tie (xX6_tie) [.ref 1, .int p1, .int p2, .int p3] M (some (.int r.1)) r.2 := by
  refine tr_I.of (Z := fun q : Int32 × tr_M => (some (.int r.1) : Option Value) = some (.int q.1) ∧ r.2 = q.2) pn_X6 rfl gdC (Nat.le_of_ble_eq_true rfl) (fun Wt => ?_) h ⟨rfl, rfl⟩
  unfold mX6_tie
  refine tr_V.aload_n (i := 0) dX6_tie_0 rfl rfl ?_
  refine tr_V.getR (Nat.succ_pos _) fl_X6_43 shC_1 rfl dX6_tie_1 ?_
  refine tr_V.iload_n (i := 1) dX6_tie_4 rfl rfl ?_
  refine tr_V.iload_n (i := 2) dX6_tie_5 rfl rfl ?_
  refine tr_V.callV (C_X5_areUnlike 26 isW_26 p1 p2 M) yk_X5_areUnlike iv_X5_areUnlike ml_X6_139 shC_26 rfl ⟨rfl, Nat.le_of_ble_eq_true rfl⟩ rfl (Nat.le_of_ble_eq_true rfl) rfl dX6_tie_6 ?_
  refine tr_V.if_eq (tgt := 28) dX6_tie_9 (by decide) ?_ ?_
  · refine tr_V.iconst (v := (-1 : Int32)) dX6_tie_28 (by decide) ?_
    exact tr_V.iret dX6_tie_29 rfl (fun h => h)
  · refine tr_V.iload_n (i := 3) dX6_tie_12 rfl rfl ?_
    refine tr_V.bipush (v := (-9 : Int32)) dX6_tie_13 (by decide) ?_
    refine tr_V.seqE (τ := Unit) (pc' := 30) (L := fun v3 => [(0, some (.ref 1)), (1, some (.int p1)), (2, some (.int p2)), (3, some (.int p3))]) (S := fun v3 => []) (Mf := fun v3 => M) ?_ ?_
    · refine tr_V.icmp_eq (tgt := 30) dX6_tie_15 (by decide) ?_ ?_
      · exact tr_V.to (fun h => h) ⟨rfl, rfl, rfl, rfl, trivial⟩
      · refine tr_V.iload_n (i := 3) dX6_tie_18 rfl rfl ?_
        refine tr_V.if_lt (tgt := 28) dX6_tie_19 (by decide) ?_ ?_
        · refine tr_V.iconst (v := (-1 : Int32)) dX6_tie_28 (by decide) ?_
          exact tr_V.iret dX6_tie_29 rfl (fun h => h)
        · refine tr_V.iload_n (i := 3) dX6_tie_22 rfl rfl ?_
          refine tr_V.bipush (v := (9 : Int32)) dX6_tie_23 (by decide) ?_
          refine tr_V.icmp_le (tgt := 30) dX6_tie_25 (by decide) ?_ ?_
          · refine tr_V.iconst (v := (-1 : Int32)) dX6_tie_28 (by decide) ?_
            exact tr_V.iret dX6_tie_29 rfl (fun h => h)
          · exact tr_V.to (fun h => h) ⟨rfl, rfl, rfl, rfl, trivial⟩
    · intro v3
      refine tr_V.aload_n (i := 0) dX6_tie_30 rfl rfl ?_
      refine tr_V.getR (Nat.succ_pos _) fl_X6_43 shC_1 rfl dX6_tie_31 ?_
      refine tr_V.getR (Nat.succ_pos _) fl_X6_142 shC_26 rfl dX6_tie_34 ?_
      refine tr_V.iload_n (i := 1) dX6_tie_37 rfl rfl ?_
      refine tr_V.bd (fun r4 h5 => ?_)
      refine tr_V.aald (ty := .array .int) h5 shC_27 (tr_ra_pos h5 (by omega)) (fun _ => rfl) rfl dX6_tie_38 ?_
      refine tr_V.iload_n (i := 2) dX6_tie_39 rfl rfl ?_
      refine tr_V.bd (fun a6 h7 => ?_)
      refine tr_V.iald h7 (shW_in isW_26 h5) dX6_tie_40 ?_
      refine tr_V.istore (i := 4) dX6_tie_41 (Nat.le_of_ble_eq_true rfl) rfl ?_
      refine tr_V.iload_n (i := 3) dX6_tie_43 rfl rfl ?_
      refine tr_V.bipush (v := (-9 : Int32)) dX6_tie_44 (by decide) ?_
      refine tr_V.icmp_eq (tgt := 63) dX6_tie_46 (by decide) ?_ ?_
      · refine tr_V.iload dX6_tie_63 rfl ?_
        exact tr_V.iret dX6_tie_65 rfl (fun h => h)
      · refine tr_V.aload_n (i := 0) dX6_tie_49 rfl rfl ?_
        refine tr_V.getR (Nat.succ_pos _) fl_X6_43 shC_1 rfl dX6_tie_50 ?_
        refine tr_V.iload_n (i := 1) dX6_tie_53 rfl rfl ?_
        refine tr_V.iload_n (i := 2) dX6_tie_54 rfl rfl ?_
        refine tr_V.iload_n (i := 3) dX6_tie_55 rfl rfl ?_
        refine tr_V.bd (fun c8 h9 => ?_)
        refine tr_V.callV (C_X5_setTie 26 isW_26 p1 p2 p3 M _ h9) yk_X5_setTie iv_X5_setTie ml_X6_146 shC_26 rfl ⟨rfl, Nat.le_of_ble_eq_true rfl⟩ rfl (Nat.le_of_ble_eq_true rfl) rfl dX6_tie_56 ?_
        refine tr_V.aload_n (i := 0) dX6_tie_59 rfl rfl ?_
        refine tr_V.bd (fun c10 h11 => ?_)
        refine tr_V.callV (C_X6_forget c8 _ h11) yk_X6_forget iv_X6_forget ml_X6_133 shC_1 rfl ⟨rfl, Nat.le_of_ble_eq_true rfl⟩ rfl (Nat.le_of_ble_eq_true rfl) rfl dX6_tie_60 ?_
        refine tr_V.iload dX6_tie_63 rfl ?_
        exact tr_V.iret dX6_tie_65 rfl (fun h => h)
abbrev xX6_rule : tr_X := (cX6_rule, 5, RX6, (some .int), 4, shC, 81)
theorem cw_X6_rule : Cond.code yX6_rule cX6_rule 5 (some .int) ∈ tr_tbl := tr_in 556 (by decide +kernel) rfl
theorem yk_X6_rule : tr_yk yX6_rule (xX6_rule) 4 := ⟨cw_X6_rule, in_X6, ⟨by decide +kernel, by decide +kernel, by decide +kernel⟩, Nat.le_of_ble_eq_true rfl⟩
theorem iv_X6_rule : Cond.instanceMethod yX6_rule ∈ tr_tbl ∧ Cond.selects (yX6_rule).cls yX6_rule yX6_rule ∈ tr_tbl := ⟨tr_in 554 (by decide +kernel) rfl, tr_in 555 (by decide +kernel) rfl⟩
def mX6_rule (p1 : Int32) (p2 : Int32) (p3 : Int32) (p4 : Int32) (M : tr_M) : Option (Int32 × tr_M) :=
  Option.bind (mX5_canRule 26 p1 p2 p3 p4 M) (fun c1 =>
  if c1 = 0 then (
    some ((-1 : Int32), M)
  ) else (
    if (M.1 26 1) = (8 : Int32) then (
      some ((-2 : Int32), M)
    ) else (
      Option.bind (mX6_forget M) (fun c3 =>
      Option.bind (mX5_addRule 26 p1 p2 p3 p4 c3) (fun c5 =>
      some (c5.1, c5.2)
      )
      )
    )
  )
  )
set_option maxRecDepth 100000 in
set_option maxHeartbeats 4000000 in
theorem C_X6_rule (p1 : Int32) (p2 : Int32) (p3 : Int32) (p4 : Int32) (M : tr_M) (r : Int32 × tr_M) (h : mX6_rule p1 p2 p3 p4 M = some r) : tr_I yX6_rule (xX6_rule) [.ref 1, .int p1, .int p2, .int p3, .int p4] M (some (.int r.1)) r.2 := by
  refine tr_I.of (Z := fun q : Int32 × tr_M => (some (.int r.1) : Option Value) = some (.int q.1) ∧ r.2 = q.2) pn_X6 rfl gdC (Nat.le_of_ble_eq_true rfl) (fun Wt => ?_) h ⟨rfl, rfl⟩
  unfold mX6_rule
  refine tr_V.aload_n (i := 0) dX6_rule_0 rfl rfl ?_
  refine tr_V.getR (Nat.succ_pos _) fl_X6_43 shC_1 rfl dX6_rule_1 ?_
  refine tr_V.iload_n (i := 1) dX6_rule_4 rfl rfl ?_
  refine tr_V.iload_n (i := 2) dX6_rule_5 rfl rfl ?_
  refine tr_V.iload_n (i := 3) dX6_rule_6 rfl rfl ?_
  refine tr_V.iload dX6_rule_7 rfl ?_
  refine tr_V.bd (fun c1 h2 => ?_)
  refine tr_V.callV (C_X5_canRule 26 isW_26 p1 p2 p3 p4 M _ h2) yk_X5_canRule iv_X5_canRule ml_X6_150 shC_26 rfl ⟨rfl, Nat.le_of_ble_eq_true rfl⟩ rfl (Nat.le_of_ble_eq_true rfl) rfl dX6_rule_9 ?_
  refine tr_V.if_ne (tgt := 17) dX6_rule_12 (by decide) ?_ ?_
  · refine tr_V.iconst (v := (-1 : Int32)) dX6_rule_15 (by decide) ?_
    exact tr_V.iret dX6_rule_16 rfl (fun h => h)
  · refine tr_V.aload_n (i := 0) dX6_rule_17 rfl rfl ?_
    refine tr_V.getR (Nat.succ_pos _) fl_X6_43 shC_1 rfl dX6_rule_18 ?_
    refine tr_V.getI fl_X6_154 shC_26 rfl dX6_rule_21 ?_
    refine tr_V.bipush (v := (8 : Int32)) dX6_rule_24 (by decide) ?_
    refine tr_V.icmp_ne (tgt := 32) dX6_rule_26 (by decide) ?_ ?_
    · refine tr_V.bipush (v := (-2 : Int32)) dX6_rule_29 (by decide) ?_
      exact tr_V.iret dX6_rule_31 rfl (fun h => h)
    · refine tr_V.aload_n (i := 0) dX6_rule_32 rfl rfl ?_
      refine tr_V.bd (fun c3 h4 => ?_)
      refine tr_V.callV (C_X6_forget M _ h4) yk_X6_forget iv_X6_forget ml_X6_133 shC_1 rfl ⟨rfl, Nat.le_of_ble_eq_true rfl⟩ rfl (Nat.le_of_ble_eq_true rfl) rfl dX6_rule_33 ?_
      refine tr_V.aload_n (i := 0) dX6_rule_36 rfl rfl ?_
      refine tr_V.getR (Nat.succ_pos _) fl_X6_43 shC_1 rfl dX6_rule_37 ?_
      refine tr_V.iload_n (i := 1) dX6_rule_40 rfl rfl ?_
      refine tr_V.iload_n (i := 2) dX6_rule_41 rfl rfl ?_
      refine tr_V.iload_n (i := 3) dX6_rule_42 rfl rfl ?_
      refine tr_V.iload dX6_rule_43 rfl ?_
      refine tr_V.bd (fun c5 h6 => ?_)
      refine tr_V.callV (C_X5_addRule 26 isW_26 p1 p2 p3 p4 c3 _ h6) yk_X5_addRule iv_X5_addRule ml_X6_157 shC_26 rfl ⟨rfl, Nat.le_of_ble_eq_true rfl⟩ rfl (Nat.le_of_ble_eq_true rfl) rfl dX6_rule_45 ?_
      exact tr_V.iret dX6_rule_48 rfl (fun h => h)
abbrev xX6_off : tr_X := (cX6_off, 4, RX6, (some .int), 2, shC, 81)
theorem cw_X6_off : Cond.code yX6_off cX6_off 4 (some .int) ∈ tr_tbl := tr_in 566 (by decide +kernel) rfl
theorem yk_X6_off : tr_yk yX6_off (xX6_off) 2 := ⟨cw_X6_off, in_X6, ⟨by decide +kernel, by decide +kernel, by decide +kernel⟩, Nat.le_of_ble_eq_true rfl⟩
theorem iv_X6_off : Cond.instanceMethod yX6_off ∈ tr_tbl ∧ Cond.selects (yX6_off).cls yX6_off yX6_off ∈ tr_tbl := ⟨tr_in 564 (by decide +kernel) rfl, tr_in 565 (by decide +kernel) rfl⟩
def mX6_off (p1 : Int32) (p2 : Int32) (M : tr_M) : Option (Int32 × tr_M) :=
  if (mX5_isRule 26 p1 M) = 0 then (
    some ((-1 : Int32), M)
  ) else (
    Option.bind (show Option ((Unit) ⊕ (Int32 × tr_M)) from
      if p2 = 0 then (
        some (.inl ())
      ) else (
        if p2 = (1 : Int32) then (
          some (.inl ())
        ) else (
          some (.inr ((-1 : Int32), M))
        )
      )
    ) (tr_el (fun (v3 : Unit) =>
      Option.bind (show Option (Int32) from
        if (mX5_isOff 26 p1 M) = 0 then (
          some (0 : Int32)
        ) else (
          some (1 : Int32)
        )
      ) (fun (v6 : Int32) =>
        Option.bind (show Option (Int32) from
          if p2 = (1 : Int32) then (
            some (1 : Int32)
          ) else (
            some (0 : Int32)
          )
        ) (fun (v7 : Int32) =>
          Option.bind (mX5_setOff 26 p1 v7 M) (fun c8 =>
          Option.bind (mX6_forget c8) (fun c10 =>
          some (v6, c10)
          )
          )
        )
      )
    ))
  )
set_option maxRecDepth 100000 in
set_option maxHeartbeats 4000000 in
theorem C_X6_off (p1 : Int32) (p2 : Int32) (M : tr_M) (r : Int32 × tr_M) (h : mX6_off p1 p2 M = some r) : tr_I yX6_off (xX6_off) [.ref 1, .int p1, .int p2] M (some (.int r.1)) r.2 := by
  refine tr_I.of (Z := fun q : Int32 × tr_M => (some (.int r.1) : Option Value) = some (.int q.1) ∧ r.2 = q.2) pn_X6 rfl gdC (Nat.le_of_ble_eq_true rfl) (fun Wt => ?_) h ⟨rfl, rfl⟩
  unfold mX6_off
  refine tr_V.aload_n (i := 0) dX6_off_0 rfl rfl ?_
  refine tr_V.getR (Nat.succ_pos _) fl_X6_43 shC_1 rfl dX6_off_1 ?_
  refine tr_V.iload_n (i := 1) dX6_off_4 rfl rfl ?_
  refine tr_V.callV (C_X5_isRule 26 isW_26 p1 M) yk_X5_isRule iv_X5_isRule ml_X6_161 shC_26 rfl ⟨rfl, Nat.le_of_ble_eq_true rfl⟩ rfl (Nat.le_of_ble_eq_true rfl) rfl dX6_off_5 ?_
  refine tr_V.if_eq (tgt := 20) dX6_off_8 (by decide) ?_ ?_
  · refine tr_V.iconst (v := (-1 : Int32)) dX6_off_20 (by decide) ?_
    exact tr_V.iret dX6_off_21 rfl (fun h => h)
  · refine tr_V.iload_n (i := 2) dX6_off_11 rfl rfl ?_
    refine tr_V.seqE (τ := Unit) (pc' := 22) (L := fun v3 => [(0, some (.ref 1)), (1, some (.int p1)), (2, some (.int p2))]) (S := fun v3 => []) (Mf := fun v3 => M) ?_ ?_
    · refine tr_V.if_eq (tgt := 22) dX6_off_12 (by decide) ?_ ?_
      · exact tr_V.to (fun h => h) ⟨rfl, rfl, rfl, trivial⟩
      · refine tr_V.iload_n (i := 2) dX6_off_15 rfl rfl ?_
        refine tr_V.iconst (v := (1 : Int32)) dX6_off_16 (by decide) ?_
        refine tr_V.icmp_eq (tgt := 22) dX6_off_17 (by decide) ?_ ?_
        · exact tr_V.to (fun h => h) ⟨rfl, rfl, rfl, trivial⟩
        · refine tr_V.iconst (v := (-1 : Int32)) dX6_off_20 (by decide) ?_
          exact tr_V.iret dX6_off_21 rfl (fun h => h)
    · intro v3
      refine tr_V.aload_n (i := 0) dX6_off_22 rfl rfl ?_
      refine tr_V.getR (Nat.succ_pos _) fl_X6_43 shC_1 rfl dX6_off_23 ?_
      refine tr_V.iload_n (i := 1) dX6_off_26 rfl rfl ?_
      refine tr_V.callV (C_X5_isOff 26 isW_26 p1 M) yk_X5_isOff iv_X5_isOff ml_X6_164 shC_26 rfl ⟨rfl, Nat.le_of_ble_eq_true rfl⟩ rfl (Nat.le_of_ble_eq_true rfl) rfl dX6_off_27 ?_
      refine tr_V.seq (τ := Int32) (pc' := 38) (L := fun v6 => [(0, some (.ref 1)), (1, some (.int p1)), (2, some (.int p2))]) (S := fun v6 => [.int v6]) (Mf := fun v6 => M) ?_ ?_
      · refine tr_V.if_eq (tgt := 37) dX6_off_30 (by decide) ?_ ?_
        · refine tr_V.iconst (v := (0 : Int32)) dX6_off_37 (by decide) ?_
          exact tr_V.to (fun h => h) ⟨rfl, rfl, rfl, trivial⟩
        · refine tr_V.iconst (v := (1 : Int32)) dX6_off_33 (by decide) ?_
          refine tr_V.goto (tgt := 38) dX6_off_34 (by decide) ?_
          exact tr_V.to (fun h => h) ⟨rfl, rfl, rfl, trivial⟩
      · intro v6
        refine tr_V.istore_n (i := 3) dX6_off_38 rfl (Nat.le_of_ble_eq_true rfl) rfl ?_
        refine tr_V.aload_n (i := 0) dX6_off_39 rfl rfl ?_
        refine tr_V.getR (Nat.succ_pos _) fl_X6_43 shC_1 rfl dX6_off_40 ?_
        refine tr_V.iload_n (i := 1) dX6_off_43 rfl rfl ?_
        refine tr_V.iload_n (i := 2) dX6_off_44 rfl rfl ?_
        refine tr_V.iconst (v := (1 : Int32)) dX6_off_45 (by decide) ?_
        refine tr_V.seq (τ := Int32) (pc' := 54) (L := fun v7 => [(0, some (.ref 1)), (3, some (.int v6))]) (S := fun v7 => [.int v7, .int p1, .ref 26]) (Mf := fun v7 => M) ?_ ?_
        · refine tr_V.icmp_ne (tgt := 53) dX6_off_46 (by decide) ?_ ?_
          · refine tr_V.iconst (v := (1 : Int32)) dX6_off_49 (by decide) ?_
            refine tr_V.goto (tgt := 54) dX6_off_50 (by decide) ?_
            exact tr_V.to (fun h => h) ⟨rfl, rfl, trivial⟩
          · refine tr_V.iconst (v := (0 : Int32)) dX6_off_53 (by decide) ?_
            exact tr_V.to (fun h => h) ⟨rfl, rfl, trivial⟩
        · intro v7
          refine tr_V.bd (fun c8 h9 => ?_)
          refine tr_V.callV (C_X5_setOff 26 isW_26 p1 v7 M _ h9) yk_X5_setOff iv_X5_setOff ml_X6_167 shC_26 rfl ⟨rfl, Nat.le_of_ble_eq_true rfl⟩ rfl (Nat.le_of_ble_eq_true rfl) rfl dX6_off_54 ?_
          refine tr_V.aload_n (i := 0) dX6_off_57 rfl rfl ?_
          refine tr_V.bd (fun c10 h11 => ?_)
          refine tr_V.callV (C_X6_forget c8 _ h11) yk_X6_forget iv_X6_forget ml_X6_133 shC_1 rfl ⟨rfl, Nat.le_of_ble_eq_true rfl⟩ rfl (Nat.le_of_ble_eq_true rfl) rfl dX6_off_58 ?_
          refine tr_V.iload_n (i := 3) dX6_off_61 rfl rfl ?_
          exact tr_V.iret dX6_off_62 rfl (fun h => h)
abbrev xX6_back : tr_X := (cX6_back, 3, RX6, (some .int), 2, shC, 81)
theorem cw_X6_back : Cond.code yX6_back cX6_back 3 (some .int) ∈ tr_tbl := tr_in 582 (by decide +kernel) rfl
theorem yk_X6_back : tr_yk yX6_back (xX6_back) 1 := ⟨cw_X6_back, in_X6, ⟨by decide +kernel, by decide +kernel, by decide +kernel⟩, Nat.le_of_ble_eq_true rfl⟩
theorem iv_X6_back : Cond.instanceMethod yX6_back ∈ tr_tbl ∧ Cond.selects (yX6_back).cls yX6_back yX6_back ∈ tr_tbl := ⟨tr_in 580 (by decide +kernel) rfl, tr_in 581 (by decide +kernel) rfl⟩
def mX6_back (p1 : Int32) (M : tr_M) : Option (Int32 × tr_M) :=
  if p1 < 0 then (
    some ((-1 : Int32), M)
  ) else (
    if (M.1 26 1) < p1 then (
      some ((-1 : Int32), M)
    ) else (
      Option.bind (mX5_dropRules 26 p1 M) (fun c1 =>
      Option.bind (mX6_forget c1) (fun c3 =>
      some (((M.1 26 1) - p1), c3)
      )
      )
    )
  )
set_option maxRecDepth 100000 in
set_option maxHeartbeats 4000000 in
theorem C_X6_back (p1 : Int32) (M : tr_M) (r : Int32 × tr_M) (h : mX6_back p1 M = some r) : tr_I yX6_back (xX6_back) [.ref 1, .int p1] M (some (.int r.1)) r.2 := by
  refine tr_I.of (Z := fun q : Int32 × tr_M => (some (.int r.1) : Option Value) = some (.int q.1) ∧ r.2 = q.2) pn_X6 rfl gdC (Nat.le_of_ble_eq_true rfl) (fun Wt => ?_) h ⟨rfl, rfl⟩
  unfold mX6_back
  refine tr_V.iload_n (i := 1) dX6_back_0 rfl rfl ?_
  refine tr_V.if_lt (tgt := 15) dX6_back_1 (by decide) ?_ ?_
  · refine tr_V.iconst (v := (-1 : Int32)) dX6_back_15 (by decide) ?_
    exact tr_V.iret dX6_back_16 rfl (fun h => h)
  · refine tr_V.iload_n (i := 1) dX6_back_4 rfl rfl ?_
    refine tr_V.aload_n (i := 0) dX6_back_5 rfl rfl ?_
    refine tr_V.getR (Nat.succ_pos _) fl_X6_43 shC_1 rfl dX6_back_6 ?_
    refine tr_V.getI fl_X6_154 shC_26 rfl dX6_back_9 ?_
    refine tr_V.icmp_le (tgt := 17) dX6_back_12 (by decide) ?_ ?_
    · refine tr_V.iconst (v := (-1 : Int32)) dX6_back_15 (by decide) ?_
      exact tr_V.iret dX6_back_16 rfl (fun h => h)
    · refine tr_V.aload_n (i := 0) dX6_back_17 rfl rfl ?_
      refine tr_V.getR (Nat.succ_pos _) fl_X6_43 shC_1 rfl dX6_back_18 ?_
      refine tr_V.getI fl_X6_154 shC_26 rfl dX6_back_21 ?_
      refine tr_V.iload_n (i := 1) dX6_back_24 rfl rfl ?_
      refine tr_V.isub dX6_back_25 ?_
      refine tr_V.istore_n (i := 2) dX6_back_26 rfl (Nat.le_of_ble_eq_true rfl) rfl ?_
      refine tr_V.aload_n (i := 0) dX6_back_27 rfl rfl ?_
      refine tr_V.getR (Nat.succ_pos _) fl_X6_43 shC_1 rfl dX6_back_28 ?_
      refine tr_V.iload_n (i := 1) dX6_back_31 rfl rfl ?_
      refine tr_V.bd (fun c1 h2 => ?_)
      refine tr_V.callV (C_X5_dropRules 26 isW_26 p1 M _ h2) yk_X5_dropRules iv_X5_dropRules ml_X6_171 shC_26 rfl ⟨rfl, Nat.le_of_ble_eq_true rfl⟩ rfl (Nat.le_of_ble_eq_true rfl) rfl dX6_back_32 ?_
      refine tr_V.aload_n (i := 0) dX6_back_35 rfl rfl ?_
      refine tr_V.bd (fun c3 h4 => ?_)
      refine tr_V.callV (C_X6_forget c1 _ h4) yk_X6_forget iv_X6_forget ml_X6_133 shC_1 rfl ⟨rfl, Nat.le_of_ble_eq_true rfl⟩ rfl (Nat.le_of_ble_eq_true rfl) rfl dX6_back_36 ?_
      refine tr_V.iload_n (i := 2) dX6_back_39 rfl rfl ?_
      exact tr_V.iret dX6_back_40 rfl (fun h => h)
abbrev xX6_told : tr_X := (cX6_told, 3, RX6, (some .int), 3, shC, 81)
theorem cw_X6_told : Cond.code yX6_told cX6_told 3 (some .int) ∈ tr_tbl := tr_in 590 (by decide +kernel) rfl
theorem yk_X6_told : tr_yk yX6_told (xX6_told) 2 := ⟨cw_X6_told, in_X6, ⟨by decide +kernel, by decide +kernel, by decide +kernel⟩, Nat.le_of_ble_eq_true rfl⟩
theorem iv_X6_told : Cond.instanceMethod yX6_told ∈ tr_tbl ∧ Cond.selects (yX6_told).cls yX6_told yX6_told ∈ tr_tbl := ⟨tr_in 588 (by decide +kernel) rfl, tr_in 589 (by decide +kernel) rfl⟩
def mX6_told (p1 : Int32) (p2 : Int32) (M : tr_M) : Option (Int32 × tr_M) :=
  if (mX5_isRule 26 p1 M) = 0 then (
    some ((-1 : Int32), M)
  ) else (
    if p2 < 0 then (
      some ((-1 : Int32), M)
    ) else (
      if (4 : Int32) < p2 then (
        some ((-1 : Int32), M)
      ) else (
        Option.bind (mX5_ruleNumber 26 p1 p2 M) (fun c3 =>
        Option.bind (some (tr_st M 1 12 c3)) (fun M5 =>
        some ((1 : Int32), M5)
        )
        )
      )
    )
  )
set_option maxRecDepth 100000 in
set_option maxHeartbeats 4000000 in
theorem C_X6_told (p1 : Int32) (p2 : Int32) (M : tr_M) (r : Int32 × tr_M) (h : mX6_told p1 p2 M = some r) : tr_I yX6_told (xX6_told) [.ref 1, .int p1, .int p2] M (some (.int r.1)) r.2 := by
  refine tr_I.of (Z := fun q : Int32 × tr_M => (some (.int r.1) : Option Value) = some (.int q.1) ∧ r.2 = q.2) pn_X6 rfl gdC (Nat.le_of_ble_eq_true rfl) (fun Wt => ?_) h ⟨rfl, rfl⟩
  unfold mX6_told
  refine tr_V.aload_n (i := 0) dX6_told_0 rfl rfl ?_
  refine tr_V.getR (Nat.succ_pos _) fl_X6_43 shC_1 rfl dX6_told_1 ?_
  refine tr_V.iload_n (i := 1) dX6_told_4 rfl rfl ?_
  refine tr_V.callV (C_X5_isRule 26 isW_26 p1 M) yk_X5_isRule iv_X5_isRule ml_X6_161 shC_26 rfl ⟨rfl, Nat.le_of_ble_eq_true rfl⟩ rfl (Nat.le_of_ble_eq_true rfl) rfl dX6_told_5 ?_
  refine tr_V.if_eq (tgt := 20) dX6_told_8 (by decide) ?_ ?_
  · refine tr_V.iconst (v := (-1 : Int32)) dX6_told_20 (by decide) ?_
    exact tr_V.iret dX6_told_21 rfl (fun h => h)
  · refine tr_V.iload_n (i := 2) dX6_told_11 rfl rfl ?_
    refine tr_V.if_lt (tgt := 20) dX6_told_12 (by decide) ?_ ?_
    · refine tr_V.iconst (v := (-1 : Int32)) dX6_told_20 (by decide) ?_
      exact tr_V.iret dX6_told_21 rfl (fun h => h)
    · refine tr_V.iload_n (i := 2) dX6_told_15 rfl rfl ?_
      refine tr_V.iconst (v := (4 : Int32)) dX6_told_16 (by decide) ?_
      refine tr_V.icmp_le (tgt := 22) dX6_told_17 (by decide) ?_ ?_
      · refine tr_V.iconst (v := (-1 : Int32)) dX6_told_20 (by decide) ?_
        exact tr_V.iret dX6_told_21 rfl (fun h => h)
      · refine tr_V.aload_n (i := 0) dX6_told_22 rfl rfl ?_
        refine tr_V.aload_n (i := 0) dX6_told_23 rfl rfl ?_
        refine tr_V.getR (Nat.succ_pos _) fl_X6_43 shC_1 rfl dX6_told_24 ?_
        refine tr_V.iload_n (i := 1) dX6_told_27 rfl rfl ?_
        refine tr_V.iload_n (i := 2) dX6_told_28 rfl rfl ?_
        refine tr_V.bd (fun c3 h4 => ?_)
        refine tr_V.callV (C_X5_ruleNumber 26 isW_26 p1 p2 M _ h4) yk_X5_ruleNumber iv_X5_ruleNumber ml_X6_174 shC_26 rfl ⟨rfl, Nat.le_of_ble_eq_true rfl⟩ rfl (Nat.le_of_ble_eq_true rfl) rfl dX6_told_29 ?_
        refine tr_V.bd (fun M5 h6 => ?_)
        refine tr_V.putI fl_X6_64 shC_1 rfl dX6_told_32 h6 ?_
        refine tr_V.iconst (v := (1 : Int32)) dX6_told_35 (by decide) ?_
        exact tr_V.iret dX6_told_36 rfl (fun h => h)
abbrev xX6_mark : tr_X := (cX6_mark, 3, RX6, (some .int), 2, shC, 81)
theorem cw_X6_mark : Cond.code yX6_mark cX6_mark 3 (some .int) ∈ tr_tbl := tr_in 599 (by decide +kernel) rfl
theorem yk_X6_mark : tr_yk yX6_mark (xX6_mark) 2 := ⟨cw_X6_mark, in_X6, ⟨by decide +kernel, by decide +kernel, by decide +kernel⟩, Nat.le_of_ble_eq_true rfl⟩
theorem iv_X6_mark : Cond.instanceMethod yX6_mark ∈ tr_tbl ∧ Cond.selects (yX6_mark).cls yX6_mark yX6_mark ∈ tr_tbl := ⟨tr_in 597 (by decide +kernel) rfl, tr_in 598 (by decide +kernel) rfl⟩
def mX6_mark (p1 : Int32) (p2 : Int32) (M : tr_M) : Option (Int32 × tr_M) :=
  if (mX5_isRule 26 p1 M) = 0 then (
    some ((-1 : Int32), M)
  ) else (
    if p2 < (1 : Int32) then (
      some ((-1 : Int32), M)
    ) else (
      if (6 : Int32) < p2 then (
        some ((-1 : Int32), M)
      ) else (
        Option.bind (mX5_isOfKind 26 p1 p2 M) (fun c3 =>
        if c3 = 0 then (
          Option.bind (mX6_found (3 : Int32) M) (fun c5 =>
          some (c5.1, c5.2)
          )
        ) else (
          Option.bind (mX5_markOf 26 p1 p2 M) (fun c7 =>
          some (c7, M)
          )
        )
        )
      )
    )
  )
set_option maxRecDepth 100000 in
set_option maxHeartbeats 4000000 in
theorem C_X6_mark (p1 : Int32) (p2 : Int32) (M : tr_M) (r : Int32 × tr_M) (h : mX6_mark p1 p2 M = some r) : tr_I yX6_mark (xX6_mark) [.ref 1, .int p1, .int p2] M (some (.int r.1)) r.2 := by
  refine tr_I.of (Z := fun q : Int32 × tr_M => (some (.int r.1) : Option Value) = some (.int q.1) ∧ r.2 = q.2) pn_X6 rfl gdC (Nat.le_of_ble_eq_true rfl) (fun Wt => ?_) h ⟨rfl, rfl⟩
  unfold mX6_mark
  refine tr_V.aload_n (i := 0) dX6_mark_0 rfl rfl ?_
  refine tr_V.getR (Nat.succ_pos _) fl_X6_43 shC_1 rfl dX6_mark_1 ?_
  refine tr_V.iload_n (i := 1) dX6_mark_4 rfl rfl ?_
  refine tr_V.callV (C_X5_isRule 26 isW_26 p1 M) yk_X5_isRule iv_X5_isRule ml_X6_161 shC_26 rfl ⟨rfl, Nat.le_of_ble_eq_true rfl⟩ rfl (Nat.le_of_ble_eq_true rfl) rfl dX6_mark_5 ?_
  refine tr_V.if_eq (tgt := 22) dX6_mark_8 (by decide) ?_ ?_
  · refine tr_V.iconst (v := (-1 : Int32)) dX6_mark_22 (by decide) ?_
    exact tr_V.iret dX6_mark_23 rfl (fun h => h)
  · refine tr_V.iload_n (i := 2) dX6_mark_11 rfl rfl ?_
    refine tr_V.iconst (v := (1 : Int32)) dX6_mark_12 (by decide) ?_
    refine tr_V.icmp_lt (tgt := 22) dX6_mark_13 (by decide) ?_ ?_
    · refine tr_V.iconst (v := (-1 : Int32)) dX6_mark_22 (by decide) ?_
      exact tr_V.iret dX6_mark_23 rfl (fun h => h)
    · refine tr_V.iload_n (i := 2) dX6_mark_16 rfl rfl ?_
      refine tr_V.bipush (v := (6 : Int32)) dX6_mark_17 (by decide) ?_
      refine tr_V.icmp_le (tgt := 24) dX6_mark_19 (by decide) ?_ ?_
      · refine tr_V.iconst (v := (-1 : Int32)) dX6_mark_22 (by decide) ?_
        exact tr_V.iret dX6_mark_23 rfl (fun h => h)
      · refine tr_V.aload_n (i := 0) dX6_mark_24 rfl rfl ?_
        refine tr_V.getR (Nat.succ_pos _) fl_X6_43 shC_1 rfl dX6_mark_25 ?_
        refine tr_V.iload_n (i := 1) dX6_mark_28 rfl rfl ?_
        refine tr_V.iload_n (i := 2) dX6_mark_29 rfl rfl ?_
        refine tr_V.bd (fun c3 h4 => ?_)
        refine tr_V.callV (C_X5_isOfKind 26 isW_26 p1 p2 M _ h4) yk_X5_isOfKind iv_X5_isOfKind ml_X6_178 shC_26 rfl ⟨rfl, Nat.le_of_ble_eq_true rfl⟩ rfl (Nat.le_of_ble_eq_true rfl) rfl dX6_mark_30 ?_
        refine tr_V.if_ne (tgt := 42) dX6_mark_33 (by decide) ?_ ?_
        · refine tr_V.aload_n (i := 0) dX6_mark_36 rfl rfl ?_
          refine tr_V.iconst (v := (3 : Int32)) dX6_mark_37 (by decide) ?_
          refine tr_V.bd (fun c5 h6 => ?_)
          refine tr_V.callV (C_X6_found (3 : Int32) M _ h6) yk_X6_found iv_X6_found ml_X6_88 shC_1 rfl ⟨rfl, Nat.le_of_ble_eq_true rfl⟩ rfl (Nat.le_of_ble_eq_true rfl) rfl dX6_mark_38 ?_
          exact tr_V.iret dX6_mark_41 rfl (fun h => h)
        · refine tr_V.aload_n (i := 0) dX6_mark_42 rfl rfl ?_
          refine tr_V.getR (Nat.succ_pos _) fl_X6_43 shC_1 rfl dX6_mark_43 ?_
          refine tr_V.iload_n (i := 1) dX6_mark_46 rfl rfl ?_
          refine tr_V.iload_n (i := 2) dX6_mark_47 rfl rfl ?_
          refine tr_V.bd (fun c7 h8 => ?_)
          refine tr_V.callV (C_X5_markOf 26 isW_26 p1 p2 M _ h8) yk_X5_markOf iv_X5_markOf ml_X6_181 shC_26 rfl ⟨rfl, Nat.le_of_ble_eq_true rfl⟩ rfl (Nat.le_of_ble_eq_true rfl) rfl dX6_mark_48 ?_
          exact tr_V.iret dX6_mark_51 rfl (fun h => h)
abbrev xX6_isMeasure : tr_X := (cX6_isMeasure, 1, RX6, (some .boolean), 1, shC, 81)
theorem cw_X6_isMeasure : Cond.code yX6_isMeasure cX6_isMeasure 1 (some .boolean) ∈ tr_tbl := tr_in 617 (by decide +kernel) rfl
theorem yk_X6_isMeasure : tr_yk yX6_isMeasure (xX6_isMeasure) 1 := ⟨cw_X6_isMeasure, in_X6, ⟨by decide +kernel, by decide +kernel, by decide +kernel⟩, Nat.le_of_ble_eq_true rfl⟩
theorem sc_X6_isMeasure : Cond.static yX6_isMeasure ∈ tr_tbl := tr_in 616 (by decide +kernel) rfl
def mX6_isMeasure' (p0 : Int32) : Option Int32 :=
  if p0 < 0 then (
    some (0 : Int32)
  ) else (
    if (4 : Int32) < p0 then (
      some (0 : Int32)
    ) else (
      some (1 : Int32)
    )
  )
def mX6_isMeasure (p0 : Int32) : Int32 :=
  if p0 < 0 then (
    (0 : Int32)
  ) else (
    if (4 : Int32) < p0 then (
      (0 : Int32)
    ) else (
      (1 : Int32)
    )
  )
theorem mX6_isMeasure_eq (p0 : Int32) : mX6_isMeasure' p0 = some (mX6_isMeasure p0) := by
  unfold mX6_isMeasure' mX6_isMeasure
  repeat' split
  all_goals rfl
set_option maxRecDepth 100000 in
set_option maxHeartbeats 4000000 in
theorem C_X6_isMeasure (p0 : Int32) (M : tr_M) : tr_I yX6_isMeasure (xX6_isMeasure) [.int p0] M (some (.int (mX6_isMeasure p0))) M := by
  refine tr_I.of (Z := fun q : Int32 => (some (.int (mX6_isMeasure p0)) : Option Value) = some (.int q) ∧ M = M) pn_X6 rfl gdC (Nat.le_of_ble_eq_true rfl) (fun Wt => ?_) (mX6_isMeasure_eq p0) ⟨rfl, rfl⟩
  unfold mX6_isMeasure'
  refine tr_V.iload_n (i := 0) dX6_isMeasure_0 rfl rfl ?_
  refine tr_V.if_lt (tgt := 13) dX6_isMeasure_1 (by decide) ?_ ?_
  · refine tr_V.iconst (v := (0 : Int32)) dX6_isMeasure_13 (by decide) ?_
    exact tr_V.zret (by decide) dX6_isMeasure_14 rfl (fun h => h)
  · refine tr_V.iload_n (i := 0) dX6_isMeasure_4 rfl rfl ?_
    refine tr_V.iconst (v := (4 : Int32)) dX6_isMeasure_5 (by decide) ?_
    refine tr_V.icmp_gt (tgt := 13) dX6_isMeasure_6 (by decide) ?_ ?_
    · refine tr_V.iconst (v := (0 : Int32)) dX6_isMeasure_13 (by decide) ?_
      exact tr_V.zret (by decide) dX6_isMeasure_14 rfl (fun h => h)
    · refine tr_V.iconst (v := (1 : Int32)) dX6_isMeasure_9 (by decide) ?_
      refine tr_V.goto (tgt := 14) dX6_isMeasure_10 (by decide) ?_
      exact tr_V.zret (by decide) dX6_isMeasure_14 rfl (fun h => h)
abbrev xX6_orderFault : tr_X := (cX6_orderFault, 2, RX6, (some .int), 3, shC, 81)
theorem cw_X6_orderFault : Cond.code yX6_orderFault cX6_orderFault 2 (some .int) ∈ tr_tbl := tr_in 621 (by decide +kernel) rfl
theorem yk_X6_orderFault : tr_yk yX6_orderFault (xX6_orderFault) 1 := ⟨cw_X6_orderFault, in_X6, ⟨by decide +kernel, by decide +kernel, by decide +kernel⟩, Nat.le_of_ble_eq_true rfl⟩
theorem iv_X6_orderFault : Cond.instanceMethod yX6_orderFault ∈ tr_tbl ∧ Cond.selects (yX6_orderFault).cls yX6_orderFault yX6_orderFault ∈ tr_tbl := ⟨tr_in 620 (by decide +kernel) rfl, tr_in 13 (by decide +kernel) rfl⟩
def mX6_orderFault (p1 : Int32) (M : tr_M) : Option (Int32) :=
  Option.bind (tr_ra 6 (fun i => 62 + 2 * i) p1) (fun r1 =>
  if (mX1_isMissing r1 M) = 0 then (
    Option.bind (tr_ra 6 (fun i => 62 + 2 * i) p1) (fun r5 =>
    if (M.1 r5 1) = (M.1 26 0) then (
      Option.bind (tr_ra 6 (fun i => 62 + 2 * i) p1) (fun r7 =>
      Option.bind (mX5_isOrder 26 (r7 + 1) M) (fun c9 =>
      if c9 = 0 then (
        some (3 : Int32)
      ) else (
        some (0 : Int32)
      )
      )
      )
    ) else (
      some (5 : Int32)
    )
    )
  ) else (
    some (1 : Int32)
  )
  )
set_option maxRecDepth 100000 in
set_option maxHeartbeats 4000000 in
theorem C_X6_orderFault (p1 : Int32) (M : tr_M) (r : Int32) (h : mX6_orderFault p1 M = some r) : tr_I yX6_orderFault (xX6_orderFault) [.ref 1, .int p1] M (some (.int r)) M := by
  refine tr_I.of (Z := fun q : Int32 => (some (.int r) : Option Value) = some (.int q) ∧ M = M) pn_X6 rfl gdC (Nat.le_of_ble_eq_true rfl) (fun Wt => ?_) h ⟨rfl, rfl⟩
  unfold mX6_orderFault
  refine tr_V.aload_n (i := 0) dX6_orderFault_0 rfl rfl ?_
  refine tr_V.getR (Nat.succ_pos _) fl_X6_11 shC_1 rfl dX6_orderFault_1 ?_
  refine tr_V.iload_n (i := 1) dX6_orderFault_4 rfl rfl ?_
  refine tr_V.bd (fun r1 h2 => ?_)
  refine tr_V.aald (ty := .object RX1) h2 shC_2 (isL_pos (isL_2 h2)) (fun _ => rfl) rfl dX6_orderFault_5 ?_
  refine tr_V.callV (C_X1_isMissing r1 (isL_2 h2) M) yk_X1_isMissing iv_X1_isMissing ml_X6_102 (shL (isL_2 h2)) rfl ⟨rfl, Nat.le_of_ble_eq_true rfl⟩ rfl (Nat.le_of_ble_eq_true rfl) rfl dX6_orderFault_6 ?_
  refine tr_V.if_eq (tgt := 14) dX6_orderFault_9 (by decide) ?_ ?_
  · refine tr_V.aload_n (i := 0) dX6_orderFault_14 rfl rfl ?_
    refine tr_V.getR (Nat.succ_pos _) fl_X6_11 shC_1 rfl dX6_orderFault_15 ?_
    refine tr_V.iload_n (i := 1) dX6_orderFault_18 rfl rfl ?_
    refine tr_V.bd (fun r5 h6 => ?_)
    refine tr_V.aald (ty := .object RX1) h6 shC_2 (isL_pos (isL_2 h6)) (fun _ => rfl) rfl dX6_orderFault_19 ?_
    refine tr_V.getI fl_X6_106 (shL (isL_2 h6)) rfl dX6_orderFault_20 ?_
    refine tr_V.aload_n (i := 0) dX6_orderFault_23 rfl rfl ?_
    refine tr_V.getR (Nat.succ_pos _) fl_X6_43 shC_1 rfl dX6_orderFault_24 ?_
    refine tr_V.getI fl_X6_136 shC_26 rfl dX6_orderFault_27 ?_
    refine tr_V.icmp_eq (tgt := 35) dX6_orderFault_30 (by decide) ?_ ?_
    · refine tr_V.aload_n (i := 0) dX6_orderFault_35 rfl rfl ?_
      refine tr_V.getR (Nat.succ_pos _) fl_X6_43 shC_1 rfl dX6_orderFault_36 ?_
      refine tr_V.aload_n (i := 0) dX6_orderFault_39 rfl rfl ?_
      refine tr_V.getR (Nat.succ_pos _) fl_X6_11 shC_1 rfl dX6_orderFault_40 ?_
      refine tr_V.iload_n (i := 1) dX6_orderFault_43 rfl rfl ?_
      refine tr_V.bd (fun r7 h8 => ?_)
      refine tr_V.aald (ty := .object RX1) h8 shC_2 (isL_pos (isL_2 h8)) (fun _ => rfl) rfl dX6_orderFault_44 ?_
      refine tr_V.getR (Nat.succ_pos _) fl_X6_99 (shL (isL_2 h8)) rfl dX6_orderFault_45 ?_
      refine tr_V.bd (fun c9 h10 => ?_)
      refine tr_V.callV (C_X5_isOrder 26 isW_26 (r7 + 1) M _ h10) yk_X5_isOrder iv_X5_isOrder ml_X6_337 shC_26 rfl ⟨rfl, Nat.le_of_ble_eq_true rfl⟩ rfl (Nat.le_of_ble_eq_true rfl) rfl dX6_orderFault_48 ?_
      refine tr_V.if_eq (tgt := 58) dX6_orderFault_51 (by decide) ?_ ?_
      · refine tr_V.iconst (v := (3 : Int32)) dX6_orderFault_58 (by decide) ?_
        exact tr_V.iret dX6_orderFault_59 rfl (fun h => h)
      · refine tr_V.iconst (v := (0 : Int32)) dX6_orderFault_54 (by decide) ?_
        refine tr_V.goto (tgt := 59) dX6_orderFault_55 (by decide) ?_
        exact tr_V.iret dX6_orderFault_59 rfl (fun h => h)
    · refine tr_V.iconst (v := (5 : Int32)) dX6_orderFault_33 (by decide) ?_
      exact tr_V.iret dX6_orderFault_34 rfl (fun h => h)
  · refine tr_V.iconst (v := (1 : Int32)) dX6_orderFault_12 (by decide) ?_
    exact tr_V.iret dX6_orderFault_13 rfl (fun h => h)
abbrev xX6_measure : tr_X := (cX6_measure, 4, RX6, (some .int), 4, shC, 81)
theorem cw_X6_measure : Cond.code yX6_measure cX6_measure 4 (some .int) ∈ tr_tbl := tr_in 614 (by decide +kernel) rfl
theorem yk_X6_measure : tr_yk yX6_measure (xX6_measure) 2 := ⟨cw_X6_measure, in_X6, ⟨by decide +kernel, by decide +kernel, by decide +kernel⟩, Nat.le_of_ble_eq_true rfl⟩
theorem iv_X6_measure : Cond.instanceMethod yX6_measure ∈ tr_tbl ∧ Cond.selects (yX6_measure).cls yX6_measure yX6_measure ∈ tr_tbl := ⟨tr_in 612 (by decide +kernel) rfl, tr_in 613 (by decide +kernel) rfl⟩
def mX6_measure (p1 : Int32) (p2 : Int32) (M : tr_M) : Option (Int32 × tr_M) :=
  if (mX6_isMeasure p1) = 0 then (
    some ((-1 : Int32), M)
  ) else (
    if (mX6_isRow p2) = 0 then (
      some ((-1 : Int32), M)
    ) else (
      Option.bind (mX6_orderFault p2 M) (fun c5 =>
      if c5 = 0 then (
        Option.bind (tr_ra 6 (fun i => 62 + 2 * i) p2) (fun r7 =>
        Option.bind (mX5_measured 26 p1 (r7 + 1) M) (fun c9 =>
        some (c9, M)
        )
        )
      ) else (
        Option.bind (mX6_found c5 M) (fun c11 =>
        some (c11.1, c11.2)
        )
      )
      )
    )
  )
set_option maxRecDepth 100000 in
set_option maxHeartbeats 4000000 in
theorem C_X6_measure (p1 : Int32) (p2 : Int32) (M : tr_M) (r : Int32 × tr_M) (h : mX6_measure p1 p2 M = some r) : tr_I yX6_measure (xX6_measure) [.ref 1, .int p1, .int p2] M (some (.int r.1)) r.2 := by
  refine tr_I.of (Z := fun q : Int32 × tr_M => (some (.int r.1) : Option Value) = some (.int q.1) ∧ r.2 = q.2) pn_X6 rfl gdC (Nat.le_of_ble_eq_true rfl) (fun Wt => ?_) h ⟨rfl, rfl⟩
  unfold mX6_measure
  refine tr_V.iload_n (i := 1) dX6_measure_0 rfl rfl ?_
  refine tr_V.callS (C_X6_isMeasure p1 M) yk_X6_isMeasure sc_X6_isMeasure ml_X6_184 ⟨rfl, Nat.le_of_ble_eq_true rfl⟩ rfl (Nat.le_of_ble_eq_true rfl) rfl dX6_measure_1 ?_
  refine tr_V.if_eq (tgt := 14) dX6_measure_4 (by decide) ?_ ?_
  · refine tr_V.iconst (v := (-1 : Int32)) dX6_measure_14 (by decide) ?_
    exact tr_V.iret dX6_measure_15 rfl (fun h => h)
  · refine tr_V.iload_n (i := 2) dX6_measure_7 rfl rfl ?_
    refine tr_V.callS (C_X6_isRow p2 M) yk_X6_isRow sc_X6_isRow ml_X6_84 ⟨rfl, Nat.le_of_ble_eq_true rfl⟩ rfl (Nat.le_of_ble_eq_true rfl) rfl dX6_measure_8 ?_
    refine tr_V.if_ne (tgt := 16) dX6_measure_11 (by decide) ?_ ?_
    · refine tr_V.iconst (v := (-1 : Int32)) dX6_measure_14 (by decide) ?_
      exact tr_V.iret dX6_measure_15 rfl (fun h => h)
    · refine tr_V.aload_n (i := 0) dX6_measure_16 rfl rfl ?_
      refine tr_V.iload_n (i := 2) dX6_measure_17 rfl rfl ?_
      refine tr_V.bd (fun c5 h6 => ?_)
      refine tr_V.callV (C_X6_orderFault p2 M _ h6) yk_X6_orderFault iv_X6_orderFault ml_X6_187 shC_1 rfl ⟨rfl, Nat.le_of_ble_eq_true rfl⟩ rfl (Nat.le_of_ble_eq_true rfl) rfl dX6_measure_18 ?_
      refine tr_V.istore_n (i := 3) dX6_measure_21 rfl (Nat.le_of_ble_eq_true rfl) rfl ?_
      refine tr_V.iload_n (i := 3) dX6_measure_22 rfl rfl ?_
      refine tr_V.if_eq (tgt := 32) dX6_measure_23 (by decide) ?_ ?_
      · refine tr_V.aload_n (i := 0) dX6_measure_32 rfl rfl ?_
        refine tr_V.getR (Nat.succ_pos _) fl_X6_43 shC_1 rfl dX6_measure_33 ?_
        refine tr_V.iload_n (i := 1) dX6_measure_36 rfl rfl ?_
        refine tr_V.aload_n (i := 0) dX6_measure_37 rfl rfl ?_
        refine tr_V.getR (Nat.succ_pos _) fl_X6_11 shC_1 rfl dX6_measure_38 ?_
        refine tr_V.iload_n (i := 2) dX6_measure_41 rfl rfl ?_
        refine tr_V.bd (fun r7 h8 => ?_)
        refine tr_V.aald (ty := .object RX1) h8 shC_2 (isL_pos (isL_2 h8)) (fun _ => rfl) rfl dX6_measure_42 ?_
        refine tr_V.getR (Nat.succ_pos _) fl_X6_99 (shL (isL_2 h8)) rfl dX6_measure_43 ?_
        refine tr_V.bd (fun c9 h10 => ?_)
        refine tr_V.callV (C_X5_measured 26 isW_26 p1 (r7 + 1) M _ h10) yk_X5_measured iv_X5_measured ml_X6_190 shC_26 rfl ⟨rfl, Nat.le_of_ble_eq_true rfl⟩ rfl (Nat.le_of_ble_eq_true rfl) rfl dX6_measure_46 ?_
        exact tr_V.iret dX6_measure_49 rfl (fun h => h)
      · refine tr_V.aload_n (i := 0) dX6_measure_26 rfl rfl ?_
        refine tr_V.iload_n (i := 3) dX6_measure_27 rfl rfl ?_
        refine tr_V.bd (fun c11 h12 => ?_)
        refine tr_V.callV (C_X6_found c5 M _ h12) yk_X6_found iv_X6_found ml_X6_88 shC_1 rfl ⟨rfl, Nat.le_of_ble_eq_true rfl⟩ rfl (Nat.le_of_ble_eq_true rfl) rfl dX6_measure_28 ?_
        exact tr_V.iret dX6_measure_31 rfl (fun h => h)
abbrev xX6_breaks : tr_X := (cX6_breaks, 3, RX6, (some .int), 4, shC, 81)
theorem cw_X6_breaks : Cond.code yX6_breaks cX6_breaks 3 (some .int) ∈ tr_tbl := tr_in 652 (by decide +kernel) rfl
theorem yk_X6_breaks : tr_yk yX6_breaks (xX6_breaks) 1 := ⟨cw_X6_breaks, in_X6, ⟨by decide +kernel, by decide +kernel, by decide +kernel⟩, Nat.le_of_ble_eq_true rfl⟩
theorem iv_X6_breaks : Cond.instanceMethod yX6_breaks ∈ tr_tbl ∧ Cond.selects (yX6_breaks).cls yX6_breaks yX6_breaks ∈ tr_tbl := ⟨tr_in 650 (by decide +kernel) rfl, tr_in 651 (by decide +kernel) rfl⟩
def mX6_breaks (p1 : Int32) (M : tr_M) : Option (Int32 × tr_M) :=
  if (mX6_isRow p1) = 0 then (
    some ((-1 : Int32), M)
  ) else (
    Option.bind (mX6_orderFault p1 M) (fun c3 =>
    if c3 = 0 then (
      Option.bind (tr_ra 6 (fun i => 62 + 2 * i) p1) (fun r5 =>
      Option.bind (mX5_firstBroken 26 (r5 + 1) M) (fun c7 =>
      some (c7.1, c7.2)
      )
      )
    ) else (
      Option.bind (mX6_found c3 M) (fun c9 =>
      some (c9.1, c9.2)
      )
    )
    )
  )
set_option maxRecDepth 100000 in
set_option maxHeartbeats 4000000 in
theorem C_X6_breaks (p1 : Int32) (M : tr_M) (r : Int32 × tr_M) (h : mX6_breaks p1 M = some r) : tr_I yX6_breaks (xX6_breaks) [.ref 1, .int p1] M (some (.int r.1)) r.2 := by
  refine tr_I.of (Z := fun q : Int32 × tr_M => (some (.int r.1) : Option Value) = some (.int q.1) ∧ r.2 = q.2) pn_X6 rfl gdC (Nat.le_of_ble_eq_true rfl) (fun Wt => ?_) h ⟨rfl, rfl⟩
  unfold mX6_breaks
  refine tr_V.iload_n (i := 1) dX6_breaks_0 rfl rfl ?_
  refine tr_V.callS (C_X6_isRow p1 M) yk_X6_isRow sc_X6_isRow ml_X6_84 ⟨rfl, Nat.le_of_ble_eq_true rfl⟩ rfl (Nat.le_of_ble_eq_true rfl) rfl dX6_breaks_1 ?_
  refine tr_V.if_ne (tgt := 9) dX6_breaks_4 (by decide) ?_ ?_
  · refine tr_V.iconst (v := (-1 : Int32)) dX6_breaks_7 (by decide) ?_
    exact tr_V.iret dX6_breaks_8 rfl (fun h => h)
  · refine tr_V.aload_n (i := 0) dX6_breaks_9 rfl rfl ?_
    refine tr_V.iload_n (i := 1) dX6_breaks_10 rfl rfl ?_
    refine tr_V.bd (fun c3 h4 => ?_)
    refine tr_V.callV (C_X6_orderFault p1 M _ h4) yk_X6_orderFault iv_X6_orderFault ml_X6_187 shC_1 rfl ⟨rfl, Nat.le_of_ble_eq_true rfl⟩ rfl (Nat.le_of_ble_eq_true rfl) rfl dX6_breaks_11 ?_
    refine tr_V.istore_n (i := 2) dX6_breaks_14 rfl (Nat.le_of_ble_eq_true rfl) rfl ?_
    refine tr_V.iload_n (i := 2) dX6_breaks_15 rfl rfl ?_
    refine tr_V.if_eq (tgt := 25) dX6_breaks_16 (by decide) ?_ ?_
    · refine tr_V.aload_n (i := 0) dX6_breaks_25 rfl rfl ?_
      refine tr_V.getR (Nat.succ_pos _) fl_X6_43 shC_1 rfl dX6_breaks_26 ?_
      refine tr_V.aload_n (i := 0) dX6_breaks_29 rfl rfl ?_
      refine tr_V.getR (Nat.succ_pos _) fl_X6_11 shC_1 rfl dX6_breaks_30 ?_
      refine tr_V.iload_n (i := 1) dX6_breaks_33 rfl rfl ?_
      refine tr_V.bd (fun r5 h6 => ?_)
      refine tr_V.aald (ty := .object RX1) h6 shC_2 (isL_pos (isL_2 h6)) (fun _ => rfl) rfl dX6_breaks_34 ?_
      refine tr_V.getR (Nat.succ_pos _) fl_X6_99 (shL (isL_2 h6)) rfl dX6_breaks_35 ?_
      refine tr_V.bd (fun c7 h8 => ?_)
      refine tr_V.callV (C_X5_firstBroken 26 isW_26 (r5 + 1) M _ h8) yk_X5_firstBroken iv_X5_firstBroken ml_X6_194 shC_26 rfl ⟨rfl, Nat.le_of_ble_eq_true rfl⟩ rfl (Nat.le_of_ble_eq_true rfl) rfl dX6_breaks_38 ?_
      exact tr_V.iret dX6_breaks_41 rfl (fun h => h)
    · refine tr_V.aload_n (i := 0) dX6_breaks_19 rfl rfl ?_
      refine tr_V.iload_n (i := 2) dX6_breaks_20 rfl rfl ?_
      refine tr_V.bd (fun c9 h10 => ?_)
      refine tr_V.callV (C_X6_found c3 M _ h10) yk_X6_found iv_X6_found ml_X6_88 shC_1 rfl ⟨rfl, Nat.le_of_ble_eq_true rfl⟩ rfl (Nat.le_of_ble_eq_true rfl) rfl dX6_breaks_21 ?_
      exact tr_V.iret dX6_breaks_24 rfl (fun h => h)
abbrev xX6_gap : tr_X := (cX6_gap, 8, RX6, (some .int), 4, shC, 81)
theorem cw_X6_gap : Cond.code yX6_gap cX6_gap 8 (some .int) ∈ tr_tbl := tr_in 671 (by decide +kernel) rfl
theorem yk_X6_gap : tr_yk yX6_gap (xX6_gap) 2 := ⟨cw_X6_gap, in_X6, ⟨by decide +kernel, by decide +kernel, by decide +kernel⟩, Nat.le_of_ble_eq_true rfl⟩
theorem iv_X6_gap : Cond.instanceMethod yX6_gap ∈ tr_tbl ∧ Cond.selects (yX6_gap).cls yX6_gap yX6_gap ∈ tr_tbl := ⟨tr_in 669 (by decide +kernel) rfl, tr_in 670 (by decide +kernel) rfl⟩
def mX6_gap_l63 (p1 : Int32) (p2 : Int32) (M : tr_M) (s7 : Int32 × Int32 × Int32) : Option ((Int32 × Int32 × Int32) ⊕ (Int32 × Int32)) :=
  if p2 < s7.2.2 then (
    some (.inr (s7.1, s7.2.1))
  ) else (
    Option.bind (tr_ra 6 (fun i => 62 + 2 * i) p1) (fun r8 =>
    Option.bind (tr_rd (tr_len shC (r8 + 1)) M (r8 + 1) s7.2.2) (fun a10 =>
    Option.bind (mX5_weightAdded 26 a10 s7.1 M) (fun c12 =>
    Option.bind (some (s7.1 ||| ((1 : Int32) <<< (a10 &&& 31)))) (fun x14 =>
    some (.inl (x14, (s7.2.1 + c12), (s7.2.2 + (1 : Int32))))
    )
    )
    )
    )
  )
def mX6_gap (p1 : Int32) (p2 : Int32) (M : tr_M) : Option (Int32 × tr_M) :=
  if (mX6_isRow p1) = 0 then (
    some ((-1 : Int32), M)
  ) else (
    if p2 < 0 then (
      some ((-1 : Int32), M)
    ) else (
      if (8 : Int32) < p2 then (
        some ((-1 : Int32), M)
      ) else (
        Option.bind (mX6_orderFault p1 M) (fun c3 =>
        Option.bind (show Option (Int32) from
          if c3 = 0 then (
            if ((M.1 26 0) - (2 : Int32)) < p2 then (
              some (2 : Int32)
            ) else (
              some c3
            )
          ) else (
            some c3
          )
        ) (fun (v5 : Int32) =>
          if v5 = 0 then (
            Option.bind (show Option (Int32 × Int32) from
              tr_loop (mX6_gap_l63 p1 p2 M) ((0 : Int32), (0 : Int32), (0 : Int32))
            ) (fun (v6 : Int32 × Int32) =>
              Option.bind (mX5_heldBy 26 v6.1 M) (fun c16 =>
              Option.bind (some (tr_st M 1 12 c16)) (fun M18 =>
              some (v6.2, M18)
              )
              )
            )
          ) else (
            Option.bind (mX6_found v5 M) (fun c20 =>
            some (c20.1, c20.2)
            )
          )
        )
        )
      )
    )
  )
set_option maxRecDepth 100000 in
set_option maxHeartbeats 4000000 in
theorem C_X6_gap (p1 : Int32) (p2 : Int32) (M : tr_M) (r : Int32 × tr_M) (h : mX6_gap p1 p2 M = some r) : tr_I yX6_gap (xX6_gap) [.ref 1, .int p1, .int p2] M (some (.int r.1)) r.2 := by
  refine tr_I.of (Z := fun q : Int32 × tr_M => (some (.int r.1) : Option Value) = some (.int q.1) ∧ r.2 = q.2) pn_X6 rfl gdC (Nat.le_of_ble_eq_true rfl) (fun Wt => ?_) h ⟨rfl, rfl⟩
  unfold mX6_gap
  refine tr_V.iload_n (i := 1) dX6_gap_0 rfl rfl ?_
  refine tr_V.callS (C_X6_isRow p1 M) yk_X6_isRow sc_X6_isRow ml_X6_84 ⟨rfl, Nat.le_of_ble_eq_true rfl⟩ rfl (Nat.le_of_ble_eq_true rfl) rfl dX6_gap_1 ?_
  refine tr_V.if_eq (tgt := 17) dX6_gap_4 (by decide) ?_ ?_
  · refine tr_V.iconst (v := (-1 : Int32)) dX6_gap_17 (by decide) ?_
    exact tr_V.iret dX6_gap_18 rfl (fun h => h)
  · refine tr_V.iload_n (i := 2) dX6_gap_7 rfl rfl ?_
    refine tr_V.if_lt (tgt := 17) dX6_gap_8 (by decide) ?_ ?_
    · refine tr_V.iconst (v := (-1 : Int32)) dX6_gap_17 (by decide) ?_
      exact tr_V.iret dX6_gap_18 rfl (fun h => h)
    · refine tr_V.iload_n (i := 2) dX6_gap_11 rfl rfl ?_
      refine tr_V.bipush (v := (8 : Int32)) dX6_gap_12 (by decide) ?_
      refine tr_V.icmp_le (tgt := 19) dX6_gap_14 (by decide) ?_ ?_
      · refine tr_V.iconst (v := (-1 : Int32)) dX6_gap_17 (by decide) ?_
        exact tr_V.iret dX6_gap_18 rfl (fun h => h)
      · refine tr_V.aload_n (i := 0) dX6_gap_19 rfl rfl ?_
        refine tr_V.iload_n (i := 1) dX6_gap_20 rfl rfl ?_
        refine tr_V.bd (fun c3 h4 => ?_)
        refine tr_V.callV (C_X6_orderFault p1 M _ h4) yk_X6_orderFault iv_X6_orderFault ml_X6_187 shC_1 rfl ⟨rfl, Nat.le_of_ble_eq_true rfl⟩ rfl (Nat.le_of_ble_eq_true rfl) rfl dX6_gap_21 ?_
        refine tr_V.istore_n (i := 3) dX6_gap_24 rfl (Nat.le_of_ble_eq_true rfl) rfl ?_
        refine tr_V.iload_n (i := 3) dX6_gap_25 rfl rfl ?_
        refine tr_V.seq (τ := Int32) (pc' := 44) (L := fun v5 => [(0, some (.ref 1)), (1, some (.int p1)), (2, some (.int p2)), (3, some (.int v5))]) (S := fun v5 => []) (Mf := fun v5 => M) ?_ ?_
        · refine tr_V.if_ne (tgt := 44) dX6_gap_26 (by decide) ?_ ?_
          · refine tr_V.iload_n (i := 2) dX6_gap_29 rfl rfl ?_
            refine tr_V.aload_n (i := 0) dX6_gap_30 rfl rfl ?_
            refine tr_V.getR (Nat.succ_pos _) fl_X6_43 shC_1 rfl dX6_gap_31 ?_
            refine tr_V.getI fl_X6_136 shC_26 rfl dX6_gap_34 ?_
            refine tr_V.iconst (v := (2 : Int32)) dX6_gap_37 (by decide) ?_
            refine tr_V.isub dX6_gap_38 ?_
            refine tr_V.icmp_le (tgt := 44) dX6_gap_39 (by decide) ?_ ?_
            · refine tr_V.iconst (v := (2 : Int32)) dX6_gap_42 (by decide) ?_
              refine tr_V.istore_n (i := 3) dX6_gap_43 rfl (Nat.le_of_ble_eq_true rfl) rfl ?_
              exact tr_V.to (fun h => h) ⟨rfl, rfl, rfl, rfl, trivial⟩
            · exact tr_V.to (fun h => h) ⟨rfl, rfl, rfl, rfl, trivial⟩
          · exact tr_V.to (fun h => h) ⟨rfl, rfl, rfl, rfl, trivial⟩
        · intro v5
          refine tr_V.iload_n (i := 3) dX6_gap_44 rfl rfl ?_
          refine tr_V.if_eq (tgt := 54) dX6_gap_45 (by decide) ?_ ?_
          · refine tr_V.iconst (v := (0 : Int32)) dX6_gap_54 (by decide) ?_
            refine tr_V.istore (i := 4) dX6_gap_55 (Nat.le_of_ble_eq_true rfl) rfl ?_
            refine tr_V.iconst (v := (0 : Int32)) dX6_gap_57 (by decide) ?_
            refine tr_V.istore (i := 5) dX6_gap_58 (Nat.le_of_ble_eq_true rfl) rfl ?_
            refine tr_V.iconst (v := (0 : Int32)) dX6_gap_60 (by decide) ?_
            refine tr_V.istore (i := 6) dX6_gap_61 (Nat.le_of_ble_eq_true rfl) rfl ?_
            refine tr_V.seq (τ := Int32 × Int32) (pc' := 114) (L := fun v6 => [(0, some (.ref 1)), (4, some (.int v6.1)), (5, some (.int v6.2))]) (S := fun v6 => []) (Mf := fun v6 => M) ?_ ?_
            · refine tr_V.loop (σ := Int32 × Int32 × Int32) (step := mX6_gap_l63 p1 p2 M) (L := fun s7 => [(0, some (.ref 1)), (1, some (.int p1)), (2, some (.int p2)), (4, some (.int s7.1)), (5, some (.int s7.2.1)), (6, some (.int s7.2.2))]) (Mf := fun s7 => M) ?_ ((0 : Int32), (0 : Int32), (0 : Int32)) ⟨rfl, rfl, rfl, rfl, rfl, rfl, trivial⟩
              intro s7
              refine tr_V.iload dX6_gap_63 rfl ?_
              refine tr_V.iload_n (i := 2) dX6_gap_65 rfl rfl ?_
              refine tr_V.icmp_gt (tgt := 114) dX6_gap_66 (by decide) ?_ ?_
              · exact tr_V.to (fun h => h) ⟨rfl, rfl, rfl, trivial⟩
              · refine tr_V.aload_n (i := 0) dX6_gap_69 rfl rfl ?_
                refine tr_V.getR (Nat.succ_pos _) fl_X6_11 shC_1 rfl dX6_gap_70 ?_
                refine tr_V.iload_n (i := 1) dX6_gap_73 rfl rfl ?_
                refine tr_V.bd (fun r8 h9 => ?_)
                refine tr_V.aald (ty := .object RX1) h9 shC_2 (isL_pos (isL_2 h9)) (fun _ => rfl) rfl dX6_gap_74 ?_
                refine tr_V.getR (Nat.succ_pos _) fl_X6_99 (shL (isL_2 h9)) rfl dX6_gap_75 ?_
                refine tr_V.iload dX6_gap_78 rfl ?_
                refine tr_V.bd (fun a10 h11 => ?_)
                refine tr_V.ialdL h11 dX6_gap_80 ?_
                refine tr_V.istore (i := 7) dX6_gap_81 (Nat.le_of_ble_eq_true rfl) rfl ?_
                refine tr_V.iload dX6_gap_83 rfl ?_
                refine tr_V.aload_n (i := 0) dX6_gap_85 rfl rfl ?_
                refine tr_V.getR (Nat.succ_pos _) fl_X6_43 shC_1 rfl dX6_gap_86 ?_
                refine tr_V.iload dX6_gap_89 rfl ?_
                refine tr_V.iload dX6_gap_91 rfl ?_
                refine tr_V.bd (fun c12 h13 => ?_)
                refine tr_V.callV (C_X5_weightAdded 26 isW_26 a10 s7.1 M _ h13) yk_X5_weightAdded iv_X5_weightAdded ml_X6_198 shC_26 rfl ⟨rfl, Nat.le_of_ble_eq_true rfl⟩ rfl (Nat.le_of_ble_eq_true rfl) rfl dX6_gap_93 ?_
                refine tr_V.iadd dX6_gap_96 ?_
                refine tr_V.istore (i := 5) dX6_gap_97 (Nat.le_of_ble_eq_true rfl) rfl ?_
                refine tr_V.iload dX6_gap_99 rfl ?_
                refine tr_V.iconst (v := (1 : Int32)) dX6_gap_101 (by decide) ?_
                refine tr_V.iload dX6_gap_102 rfl ?_
                refine tr_V.ishl dX6_gap_104 ?_
                refine tr_V.ior dX6_gap_105 ?_
                refine tr_V.bd (fun x14 h15 => ?_)
                refine tr_V.nmI h15 ?_
                refine tr_V.istore (i := 4) dX6_gap_106 (Nat.le_of_ble_eq_true rfl) rfl ?_
                refine tr_V.iinc (cst := (1 : Int32)) dX6_gap_108 rfl (by decide) rfl ?_
                refine tr_V.goto (tgt := 63) dX6_gap_111 (by decide) ?_
                exact tr_V.to (fun h => h) ⟨rfl, rfl, rfl, rfl, rfl, rfl, trivial⟩
            · intro v6
              refine tr_V.aload_n (i := 0) dX6_gap_114 rfl rfl ?_
              refine tr_V.aload_n (i := 0) dX6_gap_115 rfl rfl ?_
              refine tr_V.getR (Nat.succ_pos _) fl_X6_43 shC_1 rfl dX6_gap_116 ?_
              refine tr_V.iload dX6_gap_119 rfl ?_
              refine tr_V.bd (fun c16 h17 => ?_)
              refine tr_V.callV (C_X5_heldBy 26 isW_26 v6.1 M _ h17) yk_X5_heldBy iv_X5_heldBy ml_X6_201 shC_26 rfl ⟨rfl, Nat.le_of_ble_eq_true rfl⟩ rfl (Nat.le_of_ble_eq_true rfl) rfl dX6_gap_121 ?_
              refine tr_V.bd (fun M18 h19 => ?_)
              refine tr_V.putI fl_X6_64 shC_1 rfl dX6_gap_124 h19 ?_
              refine tr_V.iload dX6_gap_127 rfl ?_
              exact tr_V.iret dX6_gap_129 rfl (fun h => h)
          · refine tr_V.aload_n (i := 0) dX6_gap_48 rfl rfl ?_
            refine tr_V.iload_n (i := 3) dX6_gap_49 rfl rfl ?_
            refine tr_V.bd (fun c20 h21 => ?_)
            refine tr_V.callV (C_X6_found v5 M _ h21) yk_X6_found iv_X6_found ml_X6_88 shC_1 rfl ⟨rfl, Nat.le_of_ble_eq_true rfl⟩ rfl (Nat.le_of_ble_eq_true rfl) rfl dX6_gap_50 ?_
            exact tr_V.iret dX6_gap_53 rfl (fun h => h)
abbrev xX6_isSpent : tr_X := (cX6_isSpent, 2, RX6, (some .boolean), 1, shC, 81)
theorem cw_X6_isSpent : Cond.code yX6_isSpent cX6_isSpent 2 (some .boolean) ∈ tr_tbl := tr_in 685 (by decide +kernel) rfl
theorem yk_X6_isSpent : tr_yk yX6_isSpent (xX6_isSpent) 1 := ⟨cw_X6_isSpent, in_X6, ⟨by decide +kernel, by decide +kernel, by decide +kernel⟩, Nat.le_of_ble_eq_true rfl⟩
theorem iv_X6_isSpent : Cond.instanceMethod yX6_isSpent ∈ tr_tbl ∧ Cond.selects (yX6_isSpent).cls yX6_isSpent yX6_isSpent ∈ tr_tbl := ⟨tr_in 684 (by decide +kernel) rfl, tr_in 17 (by decide +kernel) rfl⟩
def mX6_isSpent' (p1 : Int32) (M : tr_M) : Option Int32 :=
  if p1 = (4 : Int32) then (
    if (8 : Int32) < (M.1 26 0) then (
      some (1 : Int32)
    ) else (
      some (0 : Int32)
    )
  ) else (
    some (0 : Int32)
  )
def mX6_isSpent (p1 : Int32) (M : tr_M) : Int32 :=
  if p1 = (4 : Int32) then (
    if (8 : Int32) < (M.1 26 0) then (
      (1 : Int32)
    ) else (
      (0 : Int32)
    )
  ) else (
    (0 : Int32)
  )
theorem mX6_isSpent_eq (p1 : Int32) (M : tr_M) : mX6_isSpent' p1 M = some (mX6_isSpent p1 M) := by
  unfold mX6_isSpent' mX6_isSpent
  repeat' split
  all_goals rfl
set_option maxRecDepth 100000 in
set_option maxHeartbeats 4000000 in
theorem C_X6_isSpent (p1 : Int32) (M : tr_M) : tr_I yX6_isSpent (xX6_isSpent) [.ref 1, .int p1] M (some (.int (mX6_isSpent p1 M))) M := by
  refine tr_I.of (Z := fun q : Int32 => (some (.int (mX6_isSpent p1 M)) : Option Value) = some (.int q) ∧ M = M) pn_X6 rfl gdC (Nat.le_of_ble_eq_true rfl) (fun Wt => ?_) (mX6_isSpent_eq p1 M) ⟨rfl, rfl⟩
  unfold mX6_isSpent'
  refine tr_V.iload_n (i := 1) dX6_isSpent_0 rfl rfl ?_
  refine tr_V.iconst (v := (4 : Int32)) dX6_isSpent_1 (by decide) ?_
  refine tr_V.icmp_ne (tgt := 21) dX6_isSpent_2 (by decide) ?_ ?_
  · refine tr_V.aload_n (i := 0) dX6_isSpent_5 rfl rfl ?_
    refine tr_V.getR (Nat.succ_pos _) fl_X6_43 shC_1 rfl dX6_isSpent_6 ?_
    refine tr_V.getI fl_X6_136 shC_26 rfl dX6_isSpent_9 ?_
    refine tr_V.bipush (v := (8 : Int32)) dX6_isSpent_12 (by decide) ?_
    refine tr_V.icmp_le (tgt := 21) dX6_isSpent_14 (by decide) ?_ ?_
    · refine tr_V.iconst (v := (1 : Int32)) dX6_isSpent_17 (by decide) ?_
      refine tr_V.goto (tgt := 22) dX6_isSpent_18 (by decide) ?_
      exact tr_V.zret (by decide) dX6_isSpent_22 rfl (fun h => h)
    · refine tr_V.iconst (v := (0 : Int32)) dX6_isSpent_21 (by decide) ?_
      exact tr_V.zret (by decide) dX6_isSpent_22 rfl (fun h => h)
  · refine tr_V.iconst (v := (0 : Int32)) dX6_isSpent_21 (by decide) ?_
    exact tr_V.zret (by decide) dX6_isSpent_22 rfl (fun h => h)
abbrev xX6_walked : tr_X := (cX6_walked, 1, RX6, (some (.object "TiedRow$LeastOrders")), 25, shC, 81)
theorem cw_X6_walked : Cond.code yX6_walked cX6_walked 1 (some (.object "TiedRow$LeastOrders")) ∈ tr_tbl := tr_in 748 (by decide +kernel) rfl
theorem yk_X6_walked : tr_yk yX6_walked (xX6_walked) 0 := ⟨cw_X6_walked, in_X6, ⟨by decide +kernel, by decide +kernel, by decide +kernel⟩, Nat.le_of_ble_eq_true rfl⟩
theorem iv_X6_walked : Cond.instanceMethod yX6_walked ∈ tr_tbl ∧ Cond.selects (yX6_walked).cls yX6_walked yX6_walked ∈ tr_tbl := ⟨tr_in 747 (by decide +kernel) rfl, tr_in 25 (by decide +kernel) rfl⟩
def mX6_walked  (M : tr_M) : Option (Nat × tr_M) :=
  Option.bind (mX4_fillLeast M) (fun c1 =>
  Option.bind (mX2_go c1) (fun c3 =>
  some (24, c3)
  )
  )
set_option maxRecDepth 100000 in
set_option maxHeartbeats 4000000 in
theorem C_X6_walked  (M : tr_M) (r : Nat × tr_M) (h : mX6_walked M = some r) : tr_I yX6_walked (xX6_walked) [.ref 1] M (some (.ref r.1)) r.2 := by
  refine tr_I.of (Z := fun q : Nat × tr_M => (some (.ref r.1) : Option Value) = some (.ref q.1) ∧ r.2 = q.2) pn_X6 rfl gdC (Nat.le_of_ble_eq_true rfl) (fun Wt => ?_) h ⟨rfl, rfl⟩
  unfold mX6_walked
  refine tr_V.aload_n (i := 0) dX6_walked_0 rfl rfl ?_
  refine tr_V.getR (Nat.succ_pos _) fl_X6_36 shC_1 rfl dX6_walked_1 ?_
  refine tr_V.bd (fun c1 h2 => ?_)
  refine tr_V.callV (C_X4_fillLeast M _ h2) yk_X4_fillLeast iv_X4_fillLeast ml_X6_352 shC_25 rfl ⟨rfl, Nat.le_of_ble_eq_true rfl⟩ rfl (Nat.le_of_ble_eq_true rfl) rfl dX6_walked_4 ?_
  refine tr_V.aload_n (i := 0) dX6_walked_7 rfl rfl ?_
  refine tr_V.getR (Nat.succ_pos _) fl_X6_28 shC_1 rfl dX6_walked_8 ?_
  refine tr_V.bd (fun c3 h4 => ?_)
  refine tr_V.callV (C_X2_go c1 _ h4) yk_X2_go iv_X2_go ml_X6_355 shC_24 rfl ⟨rfl, Nat.le_of_ble_eq_true rfl⟩ rfl (Nat.le_of_ble_eq_true rfl) rfl dX6_walked_11 ?_
  refine tr_V.aload_n (i := 0) dX6_walked_14 rfl rfl ?_
  refine tr_V.getR (Nat.succ_pos _) fl_X6_28 shC_1 rfl dX6_walked_15 ?_
  exact tr_V.aret dX6_walked_18 rfl (fun h => h)
