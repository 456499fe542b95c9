abbrev xX7_waysReach : tr_X := (cX7_waysReach, 3, RX7, (some .int), 6, shM, 24)
theorem cw_X7_waysReach : Cond.code yX7_waysReach cX7_waysReach 3 (some .int) ∈ tr_tbl := tr_in 1556 (by decide +kernel) rfl
theorem yk_X7_waysReach : tr_yk yX7_waysReach (xX7_waysReach) 0 := ⟨cw_X7_waysReach, in_X7, ⟨by decide +kernel, by decide +kernel, by decide +kernel⟩, Nat.le_of_ble_eq_true rfl⟩
theorem iv_X7_waysReach : Cond.instanceMethod yX7_waysReach ∈ tr_tbl ∧ Cond.selects (yX7_waysReach).cls yX7_waysReach yX7_waysReach ∈ tr_tbl := ⟨tr_in 1555 (by decide +kernel) rfl, tr_in 97 (by decide +kernel) rfl⟩
def mX7_waysReach_l8  (s3 : Int32 × Int32 × tr_M) : Option ((Int32 × Int32 × tr_M) ⊕ (Int32 × tr_M)) :=
  if s3.2.1 = 0 then (
    Option.bind (some (tr_st s3.2.2 1 30 s3.1)) (fun M4 =>
    some (.inr (s3.1, M4))
    )
  ) else (
    Option.bind (mX7_isLeastReach s3.2.2) (fun c6 =>
    Option.bind (show Option (Int32) from
      if c6 = 0 then (
        some (0 : Int32)
      ) else (
        some (1 : Int32)
      )
    ) (fun (v8 : Int32) =>
      Option.bind (mX7_nextLine s3.2.2) (fun c9 =>
      some (.inl ((s3.1 + v8), c9.1, c9.2))
      )
    )
    )
  )
def mX7_waysReach  (M : tr_M) : Option (Int32 × tr_M) :=
  Option.bind (mX7_firstLine M) (fun c1 =>
  tr_loop (mX7_waysReach_l8) ((0 : Int32), (1 : Int32), c1)
  )
set_option maxRecDepth 100000 in
set_option maxHeartbeats 4000000 in
theorem C_X7_waysReach  (M : tr_M) (r : Int32 × tr_M) (h : mX7_waysReach M = some r) : tr_I yX7_waysReach (xX7_waysReach) [.ref 1] M (some (.int r.1)) r.2 := by
  refine tr_I.of (Z := fun q : Int32 × tr_M => (some (.int r.1) : Option Value) = some (.int q.1) ∧ r.2 = q.2) pn_X7 rfl gdM (Nat.le_of_ble_eq_true rfl) (fun Wt => ?_) h ⟨rfl, rfl⟩
  unfold mX7_waysReach
  refine tr_V.iconst (v := (0 : Int32)) dX7_waysReach_0 (by decide) ?_
  refine tr_V.istore_n (i := 1) dX7_waysReach_1 rfl (Nat.le_of_ble_eq_true rfl) rfl ?_
  refine tr_V.aload_n (i := 0) dX7_waysReach_2 rfl rfl ?_
  refine tr_V.bd (fun c1 h2 => ?_)
  refine tr_V.callV (C_X7_firstLine M _ h2) yk_X7_firstLine iv_X7_firstLine ml_X7_267 shM_1 rfl ⟨rfl, Nat.le_of_ble_eq_true rfl⟩ rfl (Nat.le_of_ble_eq_true rfl) rfl dX7_waysReach_3 ?_
  refine tr_V.iconst (v := (1 : Int32)) dX7_waysReach_6 (by decide) ?_
  refine tr_V.istore_n (i := 2) dX7_waysReach_7 rfl (Nat.le_of_ble_eq_true rfl) rfl ?_
  refine tr_V.loop (σ := Int32 × Int32 × tr_M) (step := mX7_waysReach_l8) (L := fun s3 => [(0, some (.ref 1)), (1, some (.int s3.1)), (2, some (.int s3.2.1))]) (Mf := fun s3 => s3.2.2) ?_ ((0 : Int32), (1 : Int32), c1) ⟨rfl, rfl, rfl, trivial⟩
  intro s3
  refine tr_V.iload_n (i := 2) dX7_waysReach_8 rfl rfl ?_
  refine tr_V.if_eq (tgt := 35) dX7_waysReach_9 (by decide) ?_ ?_
  · refine tr_V.aload_n (i := 0) dX7_waysReach_35 rfl rfl ?_
    refine tr_V.iload_n (i := 1) dX7_waysReach_36 rfl rfl ?_
    refine tr_V.bd (fun M4 h5 => ?_)
    refine tr_V.putI fl_X7_260 shM_1 rfl dX7_waysReach_37 h5 ?_
    refine tr_V.iload_n (i := 1) dX7_waysReach_40 rfl rfl ?_
    exact tr_V.iret dX7_waysReach_41 rfl (fun h => h)
  · refine tr_V.iload_n (i := 1) dX7_waysReach_12 rfl rfl ?_
    refine tr_V.aload_n (i := 0) dX7_waysReach_13 rfl rfl ?_
    refine tr_V.bd (fun c6 h7 => ?_)
    refine tr_V.callV (C_X7_isLeastReach s3.2.2 _ h7) yk_X7_isLeastReach iv_X7_isLeastReach ml_X7_277 shM_1 rfl ⟨rfl, Nat.le_of_ble_eq_true rfl⟩ rfl (Nat.le_of_ble_eq_true rfl) rfl dX7_waysReach_14 ?_
    refine tr_V.seq (τ := Int32) (pc' := 25) (L := fun v8 => [(0, some (.ref 1))]) (S := fun v8 => [.int v8, .int s3.1]) (Mf := fun v8 => s3.2.2) ?_ ?_
    · refine tr_V.if_eq (tgt := 24) dX7_waysReach_17 (by decide) ?_ ?_
      · refine tr_V.iconst (v := (0 : Int32)) dX7_waysReach_24 (by decide) ?_
        exact tr_V.to (fun h => h) ⟨rfl, trivial⟩
      · refine tr_V.iconst (v := (1 : Int32)) dX7_waysReach_20 (by decide) ?_
        refine tr_V.goto (tgt := 25) dX7_waysReach_21 (by decide) ?_
        exact tr_V.to (fun h => h) ⟨rfl, trivial⟩
    · intro v8
      refine tr_V.iadd dX7_waysReach_25 ?_
      refine tr_V.istore_n (i := 1) dX7_waysReach_26 rfl (Nat.le_of_ble_eq_true rfl) rfl ?_
      refine tr_V.aload_n (i := 0) dX7_waysReach_27 rfl rfl ?_
      refine tr_V.bd (fun c9 h10 => ?_)
      refine tr_V.callV (C_X7_nextLine s3.2.2 _ h10) yk_X7_nextLine iv_X7_nextLine ml_X7_274 shM_1 rfl ⟨rfl, Nat.le_of_ble_eq_true rfl⟩ rfl (Nat.le_of_ble_eq_true rfl) rfl dX7_waysReach_28 ?_
      refine tr_V.istore_n (i := 2) dX7_waysReach_31 rfl (Nat.le_of_ble_eq_true rfl) rfl ?_
      refine tr_V.goto (tgt := 8) dX7_waysReach_32 (by decide) ?_
      exact tr_V.to (fun h => h) ⟨rfl, rfl, rfl, trivial⟩
abbrev xX7_isTooLong : tr_X := (cX7_isTooLong, 2, RX7, (some .boolean), 1, shM, 24)
theorem cw_X7_isTooLong : Cond.code yX7_isTooLong cX7_isTooLong 2 (some .boolean) ∈ tr_tbl := tr_in 1497 (by decide +kernel) rfl
theorem yk_X7_isTooLong : tr_yk yX7_isTooLong (xX7_isTooLong) 1 := ⟨cw_X7_isTooLong, in_X7, ⟨by decide +kernel, by decide +kernel, by decide +kernel⟩, Nat.le_of_ble_eq_true rfl⟩
theorem iv_X7_isTooLong : Cond.instanceMethod yX7_isTooLong ∈ tr_tbl ∧ Cond.selects (yX7_isTooLong).cls yX7_isTooLong yX7_isTooLong ∈ tr_tbl := ⟨tr_in 1496 (by decide +kernel) rfl, tr_in 84 (by decide +kernel) rfl⟩
def mX7_isTooLong' (p1 : Int32) (M : tr_M) : Option Int32 :=
  if p1 = (4 : Int32) then (
    if (8 : Int32) < (M.1 1 10) then (
      some (1 : Int32)
    ) else (
      some (0 : Int32)
    )
  ) else (
    some (0 : Int32)
  )
def mX7_isTooLong (p1 : Int32) (M : tr_M) : Int32 :=
  if p1 = (4 : Int32) then (
    if (8 : Int32) < (M.1 1 10) then (
      (1 : Int32)
    ) else (
      (0 : Int32)
    )
  ) else (
    (0 : Int32)
  )
theorem mX7_isTooLong_eq (p1 : Int32) (M : tr_M) : mX7_isTooLong' p1 M = some (mX7_isTooLong p1 M) := by
  unfold mX7_isTooLong' mX7_isTooLong
  repeat' split
  all_goals rfl
set_option maxRecDepth 100000 in
set_option maxHeartbeats 4000000 in
theorem C_X7_isTooLong (p1 : Int32) (M : tr_M) : tr_I yX7_isTooLong (xX7_isTooLong) [.ref 1, .int p1] M (some (.int (mX7_isTooLong p1 M))) M := by
  refine tr_I.of (Z := fun q : Int32 => (some (.int (mX7_isTooLong p1 M)) : Option Value) = some (.int q) ∧ M = M) pn_X7 rfl gdM (Nat.le_of_ble_eq_true rfl) (fun Wt => ?_) (mX7_isTooLong_eq p1 M) ⟨rfl, rfl⟩
  unfold mX7_isTooLong'
  refine tr_V.iload_n (i := 1) dX7_isTooLong_0 rfl rfl ?_
  refine tr_V.iconst (v := (4 : Int32)) dX7_isTooLong_1 (by decide) ?_
  refine tr_V.icmp_ne (tgt := 18) dX7_isTooLong_2 (by decide) ?_ ?_
  · refine tr_V.aload_n (i := 0) dX7_isTooLong_5 rfl rfl ?_
    refine tr_V.getI fl_X7_157 shM_1 rfl dX7_isTooLong_6 ?_
    refine tr_V.bipush (v := (8 : Int32)) dX7_isTooLong_9 (by decide) ?_
    refine tr_V.icmp_le (tgt := 18) dX7_isTooLong_11 (by decide) ?_ ?_
    · refine tr_V.iconst (v := (1 : Int32)) dX7_isTooLong_14 (by decide) ?_
      refine tr_V.goto (tgt := 19) dX7_isTooLong_15 (by decide) ?_
      exact tr_V.zret (by decide) dX7_isTooLong_19 rfl (fun h => h)
    · refine tr_V.iconst (v := (0 : Int32)) dX7_isTooLong_18 (by decide) ?_
      exact tr_V.zret (by decide) dX7_isTooLong_19 rfl (fun h => h)
  · refine tr_V.iconst (v := (0 : Int32)) dX7_isTooLong_18 (by decide) ?_
    exact tr_V.zret (by decide) dX7_isTooLong_19 rfl (fun h => h)
abbrev xX7_leastOf : tr_X := (cX7_leastOf, 2, RX7, (some .int), 6, shM, 24)
theorem cw_X7_leastOf : Cond.code yX7_leastOf cX7_leastOf 2 (some .int) ∈ tr_tbl := tr_in 1501 (by decide +kernel) rfl
theorem yk_X7_leastOf : tr_yk yX7_leastOf (xX7_leastOf) 1 := ⟨cw_X7_leastOf, in_X7, ⟨by decide +kernel, by decide +kernel, by decide +kernel⟩, Nat.le_of_ble_eq_true rfl⟩
theorem iv_X7_leastOf : Cond.instanceMethod yX7_leastOf ∈ tr_tbl ∧ Cond.selects (yX7_leastOf).cls yX7_leastOf yX7_leastOf ∈ tr_tbl := ⟨tr_in 1500 (by decide +kernel) rfl, tr_in 85 (by decide +kernel) rfl⟩
def mX7_leastOf (p1 : Int32) (M : tr_M) : Option (Int32 × tr_M) :=
  if p1 = (4 : Int32) then (
    Option.bind (mX7_leastReach M) (fun c1 =>
    some (c1.1, c1.2)
    )
  ) else (
    Option.bind (mX7_layBests p1 M) (fun c3 =>
    some (c3.1, c3.2)
    )
  )
set_option maxRecDepth 100000 in
set_option maxHeartbeats 4000000 in
theorem C_X7_leastOf (p1 : Int32) (M : tr_M) (r : Int32 × tr_M) (h : mX7_leastOf p1 M = some r) : tr_I yX7_leastOf (xX7_leastOf) [.ref 1, .int p1] M (some (.int r.1)) r.2 := by
  refine tr_I.of (Z := fun q : Int32 × tr_M => (some (.int r.1) : Option Value) = some (.int q.1) ∧ r.2 = q.2) pn_X7 rfl gdM (Nat.le_of_ble_eq_true rfl) (fun Wt => ?_) h ⟨rfl, rfl⟩
  unfold mX7_leastOf
  refine tr_V.iload_n (i := 1) dX7_leastOf_0 rfl rfl ?_
  refine tr_V.iconst (v := (4 : Int32)) dX7_leastOf_1 (by decide) ?_
  refine tr_V.icmp_ne (tgt := 12) dX7_leastOf_2 (by decide) ?_ ?_
  · refine tr_V.aload_n (i := 0) dX7_leastOf_5 rfl rfl ?_
    refine tr_V.bd (fun c1 h2 => ?_)
    refine tr_V.callV (C_X7_leastReach M _ h2) yk_X7_leastReach iv_X7_leastReach ml_X7_280 shM_1 rfl ⟨rfl, Nat.le_of_ble_eq_true rfl⟩ rfl (Nat.le_of_ble_eq_true rfl) rfl dX7_leastOf_6 ?_
    refine tr_V.goto (tgt := 17) dX7_leastOf_9 (by decide) ?_
    exact tr_V.iret dX7_leastOf_17 rfl (fun h => h)
  · refine tr_V.aload_n (i := 0) dX7_leastOf_12 rfl rfl ?_
    refine tr_V.iload_n (i := 1) dX7_leastOf_13 rfl rfl ?_
    refine tr_V.bd (fun c3 h4 => ?_)
    refine tr_V.callV (C_X7_layBests p1 M _ h4) yk_X7_layBests iv_X7_layBests ml_X7_283 shM_1 rfl ⟨rfl, Nat.le_of_ble_eq_true rfl⟩ rfl (Nat.le_of_ble_eq_true rfl) rfl dX7_leastOf_14 ?_
    exact tr_V.iret dX7_leastOf_17 rfl (fun h => h)
abbrev xX7_needLeast : tr_X := (cX7_needLeast, 2, RX7, (some .int), 7, shM, 24)
theorem cw_X7_needLeast : Cond.code yX7_needLeast cX7_needLeast 2 (some .int) ∈ tr_tbl := tr_in 1493 (by decide +kernel) rfl
theorem yk_X7_needLeast : tr_yk yX7_needLeast (xX7_needLeast) 1 := ⟨cw_X7_needLeast, in_X7, ⟨by decide +kernel, by decide +kernel, by decide +kernel⟩, Nat.le_of_ble_eq_true rfl⟩
theorem iv_X7_needLeast : Cond.instanceMethod yX7_needLeast ∈ tr_tbl ∧ Cond.selects (yX7_needLeast).cls yX7_needLeast yX7_needLeast ∈ tr_tbl := ⟨tr_in 1492 (by decide +kernel) rfl, tr_in 83 (by decide +kernel) rfl⟩
def mX7_needLeast (p1 : Int32) (M : tr_M) : Option (Int32 × tr_M) :=
  if (mX7_isTooLong p1 M) = 0 then (
    Option.bind (mX7_leastOf p1 M) (fun c3 =>
    if c3.1 < (1000000 : Int32) then (
      if p1 = (4 : Int32) then (
        Option.bind (mX7_waysReach c3.2) (fun c5 =>
        some ((0 : Int32), c5.2)
        )
      ) else (
        Option.bind (mX7_layWays p1 c3.2) (fun c7 =>
        some ((0 : Int32), c7)
        )
      )
    ) else (
      Option.bind (mX7_meets (4 : Int32) c3.2) (fun c9 =>
      some (c9.1, c9.2)
      )
    )
    )
  ) else (
    some ((-6 : Int32), M)
  )
set_option maxRecDepth 100000 in
set_option maxHeartbeats 4000000 in
theorem C_X7_needLeast (p1 : Int32) (M : tr_M) (r : Int32 × tr_M) (h : mX7_needLeast p1 M = some r) : tr_I yX7_needLeast (xX7_needLeast) [.ref 1, .int p1] M (some (.int r.1)) r.2 := by
  refine tr_I.of (Z := fun q : Int32 × tr_M => (some (.int r.1) : Option Value) = some (.int q.1) ∧ r.2 = q.2) pn_X7 rfl gdM (Nat.le_of_ble_eq_true rfl) (fun Wt => ?_) h ⟨rfl, rfl⟩
  unfold mX7_needLeast
  refine tr_V.aload_n (i := 0) dX7_needLeast_0 rfl rfl ?_
  refine tr_V.iload_n (i := 1) dX7_needLeast_1 rfl rfl ?_
  refine tr_V.callV (C_X7_isTooLong p1 M) yk_X7_isTooLong iv_X7_isTooLong ml_X7_286 shM_1 rfl ⟨rfl, Nat.le_of_ble_eq_true rfl⟩ rfl (Nat.le_of_ble_eq_true rfl) rfl dX7_needLeast_2 ?_
  refine tr_V.if_eq (tgt := 11) dX7_needLeast_5 (by decide) ?_ ?_
  · refine tr_V.aload_n (i := 0) dX7_needLeast_11 rfl rfl ?_
    refine tr_V.iload_n (i := 1) dX7_needLeast_12 rfl rfl ?_
    refine tr_V.bd (fun c3 h4 => ?_)
    refine tr_V.callV (C_X7_leastOf p1 M _ h4) yk_X7_leastOf iv_X7_leastOf ml_X7_289 shM_1 rfl ⟨rfl, Nat.le_of_ble_eq_true rfl⟩ rfl (Nat.le_of_ble_eq_true rfl) rfl dX7_needLeast_13 ?_
    refine tr_V.ldc ct_X7_246 dX7_needLeast_16 ?_
    refine tr_V.icmp_lt (tgt := 27) dX7_needLeast_18 (by decide) ?_ ?_
    · refine tr_V.iload_n (i := 1) dX7_needLeast_27 rfl rfl ?_
      refine tr_V.iconst (v := (4 : Int32)) dX7_needLeast_28 (by decide) ?_
      refine tr_V.icmp_ne (tgt := 40) dX7_needLeast_29 (by decide) ?_ ?_
      · refine tr_V.aload_n (i := 0) dX7_needLeast_32 rfl rfl ?_
        refine tr_V.bd (fun c5 h6 => ?_)
        refine tr_V.callV (C_X7_waysReach c3.2 _ h6) yk_X7_waysReach iv_X7_waysReach ml_X7_292 shM_1 rfl ⟨rfl, Nat.le_of_ble_eq_true rfl⟩ rfl (Nat.le_of_ble_eq_true rfl) rfl dX7_needLeast_33 ?_
        refine tr_V.pop rfl dX7_needLeast_36 ?_
        refine tr_V.goto (tgt := 45) dX7_needLeast_37 (by decide) ?_
        refine tr_V.iconst (v := (0 : Int32)) dX7_needLeast_45 (by decide) ?_
        exact tr_V.iret dX7_needLeast_46 rfl (fun h => h)
      · refine tr_V.aload_n (i := 0) dX7_needLeast_40 rfl rfl ?_
        refine tr_V.iload_n (i := 1) dX7_needLeast_41 rfl rfl ?_
        refine tr_V.bd (fun c7 h8 => ?_)
        refine tr_V.callV (C_X7_layWays p1 c3.2 _ h8) yk_X7_layWays iv_X7_layWays ml_X7_295 shM_1 rfl ⟨rfl, Nat.le_of_ble_eq_true rfl⟩ rfl (Nat.le_of_ble_eq_true rfl) rfl dX7_needLeast_42 ?_
        refine tr_V.iconst (v := (0 : Int32)) dX7_needLeast_45 (by decide) ?_
        exact tr_V.iret dX7_needLeast_46 rfl (fun h => h)
    · refine tr_V.aload_n (i := 0) dX7_needLeast_21 rfl rfl ?_
      refine tr_V.iconst (v := (4 : Int32)) dX7_needLeast_22 (by decide) ?_
      refine tr_V.bd (fun c9 h10 => ?_)
      refine tr_V.callV (C_X7_meets (4 : Int32) c3.2 _ h10) yk_X7_meets iv_X7_meets ml_X7_106 shM_1 rfl ⟨rfl, Nat.le_of_ble_eq_true rfl⟩ rfl (Nat.le_of_ble_eq_true rfl) rfl dX7_needLeast_23 ?_
      exact tr_V.iret dX7_needLeast_26 rfl (fun h => h)
  · refine tr_V.bipush (v := (-6 : Int32)) dX7_needLeast_8 (by decide) ?_
    exact tr_V.iret dX7_needLeast_10 rfl (fun h => h)
abbrev xX7_least : tr_X := (cX7_least, 3, RX7, (some .int), 8, shM, 24)
theorem cw_X7_least : Cond.code yX7_least cX7_least 3 (some .int) ∈ tr_tbl := tr_in 1489 (by decide +kernel) rfl
theorem yk_X7_least : tr_yk yX7_least (xX7_least) 1 := ⟨cw_X7_least, in_X7, ⟨by decide +kernel, by decide +kernel, by decide +kernel⟩, Nat.le_of_ble_eq_true rfl⟩
theorem iv_X7_least : Cond.instanceMethod yX7_least ∈ tr_tbl ∧ Cond.selects (yX7_least).cls yX7_least yX7_least ∈ tr_tbl := ⟨tr_in 1487 (by decide +kernel) rfl, tr_in 1488 (by decide +kernel) rfl⟩
def mX7_least (p1 : Int32) (M : tr_M) : Option (Int32 × tr_M) :=
  Option.bind (mX7_isMeasure p1) (fun c1 =>
  if c1 = 0 then (
    some ((-1 : Int32), M)
  ) else (
    Option.bind (mX7_needLeast p1 M) (fun c3 =>
    if c3.1 < 0 then (
      some (c3.1, c3.2)
    ) else (
      some ((c3.2.1 1 29), c3.2)
    )
    )
  )
  )
set_option maxRecDepth 100000 in
set_option maxHeartbeats 4000000 in
theorem C_X7_least (p1 : Int32) (M : tr_M) (r : Int32 × tr_M) (h : mX7_least p1 M = some r) : tr_I yX7_least (xX7_least) [.ref 1, .int p1] M (some (.int r.1)) r.2 := by
  refine tr_I.of (Z := fun q : Int32 × tr_M => (some (.int r.1) : Option Value) = some (.int q.1) ∧ r.2 = q.2) pn_X7 rfl gdM (Nat.le_of_ble_eq_true rfl) (fun Wt => ?_) h ⟨rfl, rfl⟩
  unfold mX7_least
  refine tr_V.iload_n (i := 1) dX7_least_0 rfl rfl ?_
  refine tr_V.bd (fun c1 h2 => ?_)
  refine tr_V.callS (C_X7_isMeasure p1 M _ h2) yk_X7_isMeasure sc_X7_isMeasure ml_X7_211 ⟨rfl, Nat.le_of_ble_eq_true rfl⟩ rfl (Nat.le_of_ble_eq_true rfl) rfl dX7_least_1 ?_
  refine tr_V.if_ne (tgt := 9) dX7_least_4 (by decide) ?_ ?_
  · refine tr_V.iconst (v := (-1 : Int32)) dX7_least_7 (by decide) ?_
    exact tr_V.iret dX7_least_8 rfl (fun h => h)
  · refine tr_V.aload_n (i := 0) dX7_least_9 rfl rfl ?_
    refine tr_V.iload_n (i := 1) dX7_least_10 rfl rfl ?_
    refine tr_V.bd (fun c3 h4 => ?_)
    refine tr_V.callV (C_X7_needLeast p1 M _ h4) yk_X7_needLeast iv_X7_needLeast ml_X7_299 shM_1 rfl ⟨rfl, Nat.le_of_ble_eq_true rfl⟩ rfl (Nat.le_of_ble_eq_true rfl) rfl dX7_least_11 ?_
    refine tr_V.istore_n (i := 2) dX7_least_14 rfl (Nat.le_of_ble_eq_true rfl) rfl ?_
    refine tr_V.iload_n (i := 2) dX7_least_15 rfl rfl ?_
    refine tr_V.if_ge (tgt := 23) dX7_least_16 (by decide) ?_ ?_
    · refine tr_V.iload_n (i := 2) dX7_least_19 rfl rfl ?_
      refine tr_V.goto (tgt := 27) dX7_least_20 (by decide) ?_
      exact tr_V.iret dX7_least_27 rfl (fun h => h)
    · refine tr_V.aload_n (i := 0) dX7_least_23 rfl rfl ?_
      refine tr_V.getI fl_X7_251 shM_1 rfl dX7_least_24 ?_
      exact tr_V.iret dX7_least_27 rfl (fun h => h)
abbrev xX7_clear : tr_X := (cX7_clear, 4, RX7, (Option.none : Option Jvm.ClassFile.FieldType), 1, shM, 24)
theorem cw_X7_clear : Cond.code yX7_clear cX7_clear 4 (Option.none : Option Jvm.ClassFile.FieldType) ∈ tr_tbl := tr_in 1584 (by decide +kernel) rfl
theorem yk_X7_clear : tr_yk yX7_clear (xX7_clear) 2 := ⟨cw_X7_clear, in_X7, ⟨by decide +kernel, by decide +kernel, by decide +kernel⟩, Nat.le_of_ble_eq_true rfl⟩
theorem iv_X7_clear : Cond.instanceMethod yX7_clear ∈ tr_tbl ∧ Cond.selects (yX7_clear).cls yX7_clear yX7_clear ∈ tr_tbl := ⟨tr_in 1583 (by decide +kernel) rfl, tr_in 103 (by decide +kernel) rfl⟩
def mX7_clear_l9 (p1 : Int32) (s3 : Int32 × tr_M) : Option ((Int32 × tr_M) ⊕ (tr_M)) :=
  if s3.1 < (60 : Int32) then (
    Option.bind (tr_wr 360 s3.2 4 (((60 : Int32) * p1) + s3.1) (0 : Int32)) (fun M4 =>
    some (.inl ((s3.1 + (1 : Int32)), M4))
    )
  ) else (
    some (.inr s3.2)
  )
def mX7_clear (p1 : Int32) (p2 : Int32) (M : tr_M) : Option (tr_M) :=
  Option.bind (tr_wr 6 M 3 p1 p2) (fun M1 =>
  tr_loop (mX7_clear_l9 p1) ((0 : Int32), M1)
  )
set_option maxRecDepth 100000 in
set_option maxHeartbeats 4000000 in
theorem C_X7_clear (p1 : Int32) (p2 : Int32) (M M' : tr_M) (h : mX7_clear p1 p2 M = some M') : tr_I yX7_clear (xX7_clear) [.ref 1, .int p1, .int p2] M none M' := by
  refine tr_I.of (Z := fun q : tr_M => (none : Option Value) = none ∧ M' = q) pn_X7 rfl gdM (Nat.le_of_ble_eq_true rfl) (fun Wt => ?_) h ⟨rfl, rfl⟩
  unfold mX7_clear
  refine tr_V.aload_n (i := 0) dX7_clear_0 rfl rfl ?_
  refine tr_V.getR (Nat.succ_pos _) fl_X7_13 shM_1 rfl dX7_clear_1 ?_
  refine tr_V.iload_n (i := 1) dX7_clear_4 rfl rfl ?_
  refine tr_V.iload_n (i := 2) dX7_clear_5 rfl rfl ?_
  refine tr_V.bd (fun M1 h2 => ?_)
  refine tr_V.iast h2 shM_3 dX7_clear_6 ?_
  refine tr_V.iconst (v := (0 : Int32)) dX7_clear_7 (by decide) ?_
  refine tr_V.istore_n (i := 3) dX7_clear_8 rfl (Nat.le_of_ble_eq_true rfl) rfl ?_
  refine tr_V.loop (σ := Int32 × tr_M) (step := mX7_clear_l9 p1) (L := fun s3 => [(0, some (.ref 1)), (1, some (.int p1)), (3, some (.int s3.1))]) (Mf := fun s3 => s3.2) ?_ ((0 : Int32), M1) ⟨rfl, rfl, rfl, trivial⟩
  intro s3
  refine tr_V.iload_n (i := 3) dX7_clear_9 rfl rfl ?_
  refine tr_V.bipush (v := (60 : Int32)) dX7_clear_10 (by decide) ?_
  refine tr_V.icmp_ge (tgt := 33) dX7_clear_12 (by decide) ?_ ?_
  · refine tr_V.aload_n (i := 0) dX7_clear_15 rfl rfl ?_
    refine tr_V.getR (Nat.succ_pos _) fl_X7_16 shM_1 rfl dX7_clear_16 ?_
    refine tr_V.bipush (v := (60 : Int32)) dX7_clear_19 (by decide) ?_
    refine tr_V.iload_n (i := 1) dX7_clear_21 rfl rfl ?_
    refine tr_V.imul dX7_clear_22 ?_
    refine tr_V.iload_n (i := 3) dX7_clear_23 rfl rfl ?_
    refine tr_V.iadd dX7_clear_24 ?_
    refine tr_V.iconst (v := (0 : Int32)) dX7_clear_25 (by decide) ?_
    refine tr_V.bd (fun M4 h5 => ?_)
    refine tr_V.iast h5 shM_4 dX7_clear_26 ?_
    refine tr_V.iinc (cst := (1 : Int32)) dX7_clear_27 rfl (by decide) rfl ?_
    refine tr_V.goto (tgt := 9) dX7_clear_30 (by decide) ?_
    exact tr_V.to (fun h => h) ⟨rfl, rfl, rfl, trivial⟩
  · exact tr_V.vret dX7_clear_33 rfl (fun h => h)
abbrev xX7_lineToRow : tr_X := (cX7_lineToRow, 3, RX7, (Option.none : Option Jvm.ClassFile.FieldType), 2, shM, 24)
theorem cw_X7_lineToRow : Cond.code yX7_lineToRow cX7_lineToRow 3 (Option.none : Option Jvm.ClassFile.FieldType) ∈ tr_tbl := tr_in 1580 (by decide +kernel) rfl
theorem yk_X7_lineToRow : tr_yk yX7_lineToRow (xX7_lineToRow) 1 := ⟨cw_X7_lineToRow, in_X7, ⟨by decide +kernel, by decide +kernel, by decide +kernel⟩, Nat.le_of_ble_eq_true rfl⟩
theorem iv_X7_lineToRow : Cond.instanceMethod yX7_lineToRow ∈ tr_tbl ∧ Cond.selects (yX7_lineToRow).cls yX7_lineToRow yX7_lineToRow ∈ tr_tbl := ⟨tr_in 1579 (by decide +kernel) rfl, tr_in 102 (by decide +kernel) rfl⟩
def mX7_lineToRow_l11 (p1 : Int32) (s3 : Int32 × tr_M) : Option ((Int32 × tr_M) ⊕ (tr_M)) :=
  if s3.1 < (s3.2.1 1 10) then (
    Option.bind (tr_rd 10 s3.2 12 s3.1) (fun a4 =>
    Option.bind (tr_wr 360 s3.2 4 (((60 : Int32) * p1) + s3.1) a4) (fun M6 =>
    some (.inl ((s3.1 + (1 : Int32)), M6))
    )
    )
  ) else (
    some (.inr s3.2)
  )
def mX7_lineToRow (p1 : Int32) (M : tr_M) : Option (tr_M) :=
  Option.bind (mX7_clear p1 (M.1 1 10) M) (fun c1 =>
  tr_loop (mX7_lineToRow_l11 p1) ((0 : Int32), c1)
  )
set_option maxRecDepth 100000 in
set_option maxHeartbeats 4000000 in
theorem C_X7_lineToRow (p1 : Int32) (M M' : tr_M) (h : mX7_lineToRow p1 M = some M') : tr_I yX7_lineToRow (xX7_lineToRow) [.ref 1, .int p1] M none M' := by
  refine tr_I.of (Z := fun q : tr_M => (none : Option Value) = none ∧ M' = q) pn_X7 rfl gdM (Nat.le_of_ble_eq_true rfl) (fun Wt => ?_) h ⟨rfl, rfl⟩
  unfold mX7_lineToRow
  refine tr_V.aload_n (i := 0) dX7_lineToRow_0 rfl rfl ?_
  refine tr_V.iload_n (i := 1) dX7_lineToRow_1 rfl rfl ?_
  refine tr_V.aload_n (i := 0) dX7_lineToRow_2 rfl rfl ?_
  refine tr_V.getI fl_X7_157 shM_1 rfl dX7_lineToRow_3 ?_
  refine tr_V.bd (fun c1 h2 => ?_)
  refine tr_V.callV (C_X7_clear p1 (M.1 1 10) M _ h2) yk_X7_clear iv_X7_clear ml_X7_302 shM_1 rfl ⟨rfl, Nat.le_of_ble_eq_true rfl⟩ rfl (Nat.le_of_ble_eq_true rfl) rfl dX7_lineToRow_6 ?_
  refine tr_V.iconst (v := (0 : Int32)) dX7_lineToRow_9 (by decide) ?_
  refine tr_V.istore_n (i := 2) dX7_lineToRow_10 rfl (Nat.le_of_ble_eq_true rfl) rfl ?_
  refine tr_V.loop (σ := Int32 × tr_M) (step := mX7_lineToRow_l11 p1) (L := fun s3 => [(0, some (.ref 1)), (1, some (.int p1)), (2, some (.int s3.1))]) (Mf := fun s3 => s3.2) ?_ ((0 : Int32), c1) ⟨rfl, rfl, rfl, trivial⟩
  intro s3
  refine tr_V.iload_n (i := 2) dX7_lineToRow_11 rfl rfl ?_
  refine tr_V.aload_n (i := 0) dX7_lineToRow_12 rfl rfl ?_
  refine tr_V.getI fl_X7_157 shM_1 rfl dX7_lineToRow_13 ?_
  refine tr_V.icmp_ge (tgt := 42) dX7_lineToRow_16 (by decide) ?_ ?_
  · refine tr_V.aload_n (i := 0) dX7_lineToRow_19 rfl rfl ?_
    refine tr_V.getR (Nat.succ_pos _) fl_X7_16 shM_1 rfl dX7_lineToRow_20 ?_
    refine tr_V.bipush (v := (60 : Int32)) dX7_lineToRow_23 (by decide) ?_
    refine tr_V.iload_n (i := 1) dX7_lineToRow_25 rfl rfl ?_
    refine tr_V.imul dX7_lineToRow_26 ?_
    refine tr_V.iload_n (i := 2) dX7_lineToRow_27 rfl rfl ?_
    refine tr_V.iadd dX7_lineToRow_28 ?_
    refine tr_V.aload_n (i := 0) dX7_lineToRow_29 rfl rfl ?_
    refine tr_V.getR (Nat.succ_pos _) fl_X7_41 shM_1 rfl dX7_lineToRow_30 ?_
    refine tr_V.iload_n (i := 2) dX7_lineToRow_33 rfl rfl ?_
    refine tr_V.bd (fun a4 h5 => ?_)
    refine tr_V.iald h5 shM_12 dX7_lineToRow_34 ?_
    refine tr_V.bd (fun M6 h7 => ?_)
    refine tr_V.iast h7 shM_4 dX7_lineToRow_35 ?_
    refine tr_V.iinc (cst := (1 : Int32)) dX7_lineToRow_36 rfl (by decide) rfl ?_
    refine tr_V.goto (tgt := 11) dX7_lineToRow_39 (by decide) ?_
    exact tr_V.to (fun h => h) ⟨rfl, rfl, rfl, trivial⟩
  · exact tr_V.vret dX7_lineToRow_42 rfl (fun h => h)
abbrev xX7_layLeast : tr_X := (cX7_layLeast, 8, RX7, (Option.none : Option Jvm.ClassFile.FieldType), 6, shM, 24)
theorem cw_X7_layLeast : Cond.code yX7_layLeast cX7_layLeast 8 (Option.none : Option Jvm.ClassFile.FieldType) ∈ tr_tbl := tr_in 1576 (by decide +kernel) rfl
theorem yk_X7_layLeast : tr_yk yX7_layLeast (xX7_layLeast) 2 := ⟨cw_X7_layLeast, in_X7, ⟨by decide +kernel, by decide +kernel, by decide +kernel⟩, Nat.le_of_ble_eq_true rfl⟩
theorem iv_X7_layLeast : Cond.instanceMethod yX7_layLeast ∈ tr_tbl ∧ Cond.selects (yX7_layLeast).cls yX7_layLeast yX7_layLeast ∈ tr_tbl := ⟨tr_in 1575 (by decide +kernel) rfl, tr_in 101 (by decide +kernel) rfl⟩
def mX7_layLeast_l11  (s3 : Int32 × tr_M) : Option ((Int32 × tr_M) ⊕ (tr_M)) :=
  Option.bind (mX7_isLeastReach s3.2) (fun c4 =>
  Option.bind (show Option ((Unit) ⊕ ((Int32 × tr_M) ⊕ (tr_M))) from
    if c4 = 0 then (
      some (.inl ())
    ) else (
      if 0 < s3.1 then (
        some (.inl ())
      ) else (
        some (.inr (.inr s3.2))
      )
    )
  ) (tr_el (fun (v6 : Unit) =>
    Option.bind (mX7_isLeastReach s3.2) (fun c7 =>
    Option.bind (show Option (Int32) from
      if c7 = 0 then (
        some (0 : Int32)
      ) else (
        some (1 : Int32)
      )
    ) (fun (v9 : Int32) =>
      Option.bind (mX7_nextLine s3.2) (fun c10 =>
      some (.inl ((s3.1 - v9), c10.2))
      )
    )
    )
  ))
  )
def mX7_layLeast_l68 (p1 : Int32) (s12 : Int32 × Int32 × Int32 × Int32 × tr_M) (s14 : Int32 × Int32) : Option ((Int32 × Int32) ⊕ (Int32 × Int32)) :=
  Option.bind (mX7_isGood p1 s12.2.1 s12.2.2.1 s14.2 s12.2.2.2.2) (fun c15 =>
  Option.bind (show Option ((Unit) ⊕ ((Int32 × Int32) ⊕ (Int32 × Int32))) from
    if c15 = 0 then (
      some (.inl ())
    ) else (
      Option.bind (tr_rd 10240 s12.2.2.2.2 17 (mX7_spot (s12.2.1 ||| ((1 : Int32) <<< (s14.2 &&& 31))) s14.2)) (fun a20 =>
      if s14.1 < a20 then (
        some (.inr (.inr (s14.1, s14.2)))
      ) else (
        some (.inl ())
      )
      )
    )
  ) (tr_el (fun (v17 : Unit) =>
    Option.bind (mX7_isGood p1 s12.2.1 s12.2.2.1 s14.2 s12.2.2.2.2) (fun c22 =>
    if c22 = 0 then (
      some (.inl ((s14.1 - (0 : Int32)), (s14.2 + (1 : Int32))))
    ) else (
      Option.bind (tr_rd 10240 s12.2.2.2.2 17 (mX7_spot (s12.2.1 ||| ((1 : Int32) <<< (s14.2 &&& 31))) s14.2)) (fun a26 =>
      some (.inl ((s14.1 - a26), (s14.2 + (1 : Int32))))
      )
    )
    )
  ))
  )
def mX7_layLeast_l56 (p1 : Int32) (s12 : Int32 × Int32 × Int32 × Int32 × tr_M) : Option ((Int32 × Int32 × Int32 × Int32 × tr_M) ⊕ (tr_M)) :=
  if s12.2.2.2.1 < (s12.2.2.2.2.1 1 10) then (
    Option.bind (show Option (Int32 × Int32) from
      tr_loop (mX7_layLeast_l68 p1 s12) (s12.1, (0 : Int32))
    ) (fun (v13 : Int32 × Int32) =>
      Option.bind (tr_wr 10 s12.2.2.2.2 12 s12.2.2.2.1 v13.2) (fun M28 =>
      Option.bind (some (s12.2.1 ||| ((1 : Int32) <<< (v13.2 &&& 31)))) (fun x30 =>
      some (.inl (v13.1, x30, v13.2, (s12.2.2.2.1 + (1 : Int32)), M28))
      )
      )
    )
  ) else (
    some (.inr s12.2.2.2.2)
  )
def mX7_layLeast (p1 : Int32) (p2 : Int32) (M : tr_M) : Option (tr_M) :=
  if p1 = (4 : Int32) then (
    Option.bind (mX7_firstLine M) (fun c1 =>
    tr_loop (mX7_layLeast_l11) (p2, c1)
    )
  ) else (
    tr_loop (mX7_layLeast_l56 p1) (p2, (0 : Int32), (-9 : Int32), (0 : Int32), M)
  )
set_option maxRecDepth 100000 in
set_option maxHeartbeats 4000000 in
theorem C_X7_layLeast (p1 : Int32) (p2 : Int32) (M M' : tr_M) (h : mX7_layLeast p1 p2 M = some M') : tr_I yX7_layLeast (xX7_layLeast) [.ref 1, .int p1, .int p2] M none M' := by
  refine tr_I.of (Z := fun q : tr_M => (none : Option Value) = none ∧ M' = q) pn_X7 rfl gdM (Nat.le_of_ble_eq_true rfl) (fun Wt => ?_) h ⟨rfl, rfl⟩
  unfold mX7_layLeast
  refine tr_V.iload_n (i := 2) dX7_layLeast_0 rfl rfl ?_
  refine tr_V.istore_n (i := 3) dX7_layLeast_1 rfl (Nat.le_of_ble_eq_true rfl) rfl ?_
  refine tr_V.iload_n (i := 1) dX7_layLeast_2 rfl rfl ?_
  refine tr_V.iconst (v := (4 : Int32)) dX7_layLeast_3 (by decide) ?_
  refine tr_V.icmp_ne (tgt := 46) dX7_layLeast_4 (by decide) ?_ ?_
  · refine tr_V.aload_n (i := 0) dX7_layLeast_7 rfl rfl ?_
    refine tr_V.bd (fun c1 h2 => ?_)
    refine tr_V.callV (C_X7_firstLine M _ h2) yk_X7_firstLine iv_X7_firstLine ml_X7_267 shM_1 rfl ⟨rfl, Nat.le_of_ble_eq_true rfl⟩ rfl (Nat.le_of_ble_eq_true rfl) rfl dX7_layLeast_8 ?_
    refine tr_V.loop (σ := Int32 × tr_M) (step := mX7_layLeast_l11) (L := fun s3 => [(0, some (.ref 1)), (3, some (.int s3.1))]) (Mf := fun s3 => s3.2) ?_ (p2, c1) ⟨rfl, rfl, trivial⟩
    intro s3
    refine tr_V.aload_n (i := 0) dX7_layLeast_11 rfl rfl ?_
    refine tr_V.bd (fun c4 h5 => ?_)
    refine tr_V.callV (C_X7_isLeastReach s3.2 _ h5) yk_X7_isLeastReach iv_X7_isLeastReach ml_X7_277 shM_1 rfl ⟨rfl, Nat.le_of_ble_eq_true rfl⟩ rfl (Nat.le_of_ble_eq_true rfl) rfl dX7_layLeast_12 ?_
    refine tr_V.seqE (τ := Unit) (pc' := 22) (L := fun v6 => [(0, some (.ref 1)), (3, some (.int s3.1))]) (S := fun v6 => []) (Mf := fun v6 => s3.2) ?_ ?_
    · refine tr_V.if_eq (tgt := 22) dX7_layLeast_15 (by decide) ?_ ?_
      · exact tr_V.to (fun h => h) ⟨rfl, rfl, trivial⟩
      · refine tr_V.iload_n (i := 3) dX7_layLeast_18 rfl rfl ?_
        refine tr_V.if_le (tgt := 45) dX7_layLeast_19 (by decide) ?_ ?_
        · exact tr_V.to (fun h => h) ⟨rfl, rfl, trivial⟩
        · exact tr_V.vret dX7_layLeast_45 rfl (fun h => h)
    · intro v6
      refine tr_V.iload_n (i := 3) dX7_layLeast_22 rfl rfl ?_
      refine tr_V.aload_n (i := 0) dX7_layLeast_23 rfl rfl ?_
      refine tr_V.bd (fun c7 h8 => ?_)
      refine tr_V.callV (C_X7_isLeastReach s3.2 _ h8) yk_X7_isLeastReach iv_X7_isLeastReach ml_X7_277 shM_1 rfl ⟨rfl, Nat.le_of_ble_eq_true rfl⟩ rfl (Nat.le_of_ble_eq_true rfl) rfl dX7_layLeast_24 ?_
      refine tr_V.seq (τ := Int32) (pc' := 35) (L := fun v9 => [(0, some (.ref 1))]) (S := fun v9 => [.int v9, .int s3.1]) (Mf := fun v9 => s3.2) ?_ ?_
      · refine tr_V.if_eq (tgt := 34) dX7_layLeast_27 (by decide) ?_ ?_
        · refine tr_V.iconst (v := (0 : Int32)) dX7_layLeast_34 (by decide) ?_
          exact tr_V.to (fun h => h) ⟨rfl, trivial⟩
        · refine tr_V.iconst (v := (1 : Int32)) dX7_layLeast_30 (by decide) ?_
          refine tr_V.goto (tgt := 35) dX7_layLeast_31 (by decide) ?_
          exact tr_V.to (fun h => h) ⟨rfl, trivial⟩
      · intro v9
        refine tr_V.isub dX7_layLeast_35 ?_
        refine tr_V.istore_n (i := 3) dX7_layLeast_36 rfl (Nat.le_of_ble_eq_true rfl) rfl ?_
        refine tr_V.aload_n (i := 0) dX7_layLeast_37 rfl rfl ?_
        refine tr_V.bd (fun c10 h11 => ?_)
        refine tr_V.callV (C_X7_nextLine s3.2 _ h11) yk_X7_nextLine iv_X7_nextLine ml_X7_274 shM_1 rfl ⟨rfl, Nat.le_of_ble_eq_true rfl⟩ rfl (Nat.le_of_ble_eq_true rfl) rfl dX7_layLeast_38 ?_
        refine tr_V.pop rfl dX7_layLeast_41 ?_
        refine tr_V.goto (tgt := 11) dX7_layLeast_42 (by decide) ?_
        exact tr_V.to (fun h => h) ⟨rfl, rfl, trivial⟩
  · refine tr_V.iconst (v := (0 : Int32)) dX7_layLeast_46 (by decide) ?_
    refine tr_V.istore (i := 4) dX7_layLeast_47 (Nat.le_of_ble_eq_true rfl) rfl ?_
    refine tr_V.bipush (v := (-9 : Int32)) dX7_layLeast_49 (by decide) ?_
    refine tr_V.istore (i := 5) dX7_layLeast_51 (Nat.le_of_ble_eq_true rfl) rfl ?_
    refine tr_V.iconst (v := (0 : Int32)) dX7_layLeast_53 (by decide) ?_
    refine tr_V.istore (i := 6) dX7_layLeast_54 (Nat.le_of_ble_eq_true rfl) rfl ?_
    refine tr_V.loop (σ := Int32 × Int32 × Int32 × Int32 × tr_M) (step := mX7_layLeast_l56 p1) (L := fun s12 => [(0, some (.ref 1)), (1, some (.int p1)), (3, some (.int s12.1)), (4, some (.int s12.2.1)), (5, some (.int s12.2.2.1)), (6, some (.int s12.2.2.2.1))]) (Mf := fun s12 => s12.2.2.2.2) ?_ (p2, (0 : Int32), (-9 : Int32), (0 : Int32), M) ⟨rfl, rfl, rfl, rfl, rfl, rfl, trivial⟩
    intro s12
    refine tr_V.iload dX7_layLeast_56 rfl ?_
    refine tr_V.aload_n (i := 0) dX7_layLeast_58 rfl rfl ?_
    refine tr_V.getI fl_X7_157 shM_1 rfl dX7_layLeast_59 ?_
    refine tr_V.icmp_ge (tgt := 175) dX7_layLeast_62 (by decide) ?_ ?_
    · refine tr_V.iconst (v := (0 : Int32)) dX7_layLeast_65 (by decide) ?_
      refine tr_V.istore (i := 7) dX7_layLeast_66 (Nat.le_of_ble_eq_true rfl) rfl ?_
      refine tr_V.seq (τ := Int32 × Int32) (pc' := 147) (L := fun v13 => [(0, some (.ref 1)), (1, some (.int p1)), (3, some (.int v13.1)), (4, some (.int s12.2.1)), (6, some (.int s12.2.2.2.1)), (7, some (.int v13.2))]) (S := fun v13 => []) (Mf := fun v13 => s12.2.2.2.2) ?_ ?_
      · refine tr_V.loop (σ := Int32 × Int32) (step := mX7_layLeast_l68 p1 s12) (L := fun s14 => [(0, some (.ref 1)), (1, some (.int p1)), (3, some (.int s14.1)), (4, some (.int s12.2.1)), (5, some (.int s12.2.2.1)), (6, some (.int s12.2.2.2.1)), (7, some (.int s14.2))]) (Mf := fun s14 => s12.2.2.2.2) ?_ (s12.1, (0 : Int32)) ⟨rfl, rfl, rfl, rfl, rfl, rfl, rfl, trivial⟩
        intro s14
        refine tr_V.aload_n (i := 0) dX7_layLeast_68 rfl rfl ?_
        refine tr_V.iload_n (i := 1) dX7_layLeast_69 rfl rfl ?_
        refine tr_V.iload dX7_layLeast_70 rfl ?_
        refine tr_V.iload dX7_layLeast_72 rfl ?_
        refine tr_V.iload dX7_layLeast_74 rfl ?_
        refine tr_V.bd (fun c15 h16 => ?_)
        refine tr_V.callV (C_X7_isGood p1 s12.2.1 s12.2.2.1 s14.2 s12.2.2.2.2 _ h16) yk_X7_isGood iv_X7_isGood ml_X7_257 shM_1 rfl ⟨rfl, Nat.le_of_ble_eq_true rfl⟩ rfl (Nat.le_of_ble_eq_true rfl) rfl dX7_layLeast_76 ?_
        refine tr_V.seqE (τ := Unit) (pc' := 103) (L := fun v17 => [(0, some (.ref 1)), (1, some (.int p1)), (3, some (.int s14.1)), (4, some (.int s12.2.1)), (5, some (.int s12.2.2.1)), (6, some (.int s12.2.2.2.1)), (7, some (.int s14.2))]) (S := fun v17 => []) (Mf := fun v17 => s12.2.2.2.2) ?_ ?_
        · refine tr_V.if_eq (tgt := 103) dX7_layLeast_79 (by decide) ?_ ?_
          · exact tr_V.to (fun h => h) ⟨rfl, rfl, rfl, rfl, rfl, rfl, rfl, trivial⟩
          · refine tr_V.iload_n (i := 3) dX7_layLeast_82 rfl rfl ?_
            refine tr_V.aload_n (i := 0) dX7_layLeast_83 rfl rfl ?_
            refine tr_V.getR (Nat.succ_pos _) fl_X7_56 shM_1 rfl dX7_layLeast_84 ?_
            refine tr_V.iload dX7_layLeast_87 rfl ?_
            refine tr_V.iconst (v := (1 : Int32)) dX7_layLeast_89 (by decide) ?_
            refine tr_V.iload dX7_layLeast_90 rfl ?_
            refine tr_V.ishl dX7_layLeast_92 ?_
            refine tr_V.ior dX7_layLeast_93 ?_
            refine tr_V.iload dX7_layLeast_94 rfl ?_
            refine tr_V.callS (C_X7_spot (s12.2.1 ||| ((1 : Int32) <<< (s14.2 &&& 31))) s14.2 s12.2.2.2.2) yk_X7_spot sc_X7_spot ml_X7_243 ⟨rfl, Nat.le_of_ble_eq_true rfl⟩ rfl (Nat.le_of_ble_eq_true rfl) rfl dX7_layLeast_96 ?_
            refine tr_V.bd (fun a20 h21 => ?_)
            refine tr_V.iald h21 shM_17 dX7_layLeast_99 ?_
            refine tr_V.icmp_lt (tgt := 147) dX7_layLeast_100 (by decide) ?_ ?_
            · exact tr_V.to (fun h => h) ⟨rfl, rfl, rfl, rfl, rfl, rfl, trivial⟩
            · exact tr_V.to (fun h => h) ⟨rfl, rfl, rfl, rfl, rfl, rfl, rfl, trivial⟩
        · intro v17
          refine tr_V.iload_n (i := 3) dX7_layLeast_103 rfl rfl ?_
          refine tr_V.aload_n (i := 0) dX7_layLeast_104 rfl rfl ?_
          refine tr_V.iload_n (i := 1) dX7_layLeast_105 rfl rfl ?_
          refine tr_V.iload dX7_layLeast_106 rfl ?_
          refine tr_V.iload dX7_layLeast_108 rfl ?_
          refine tr_V.iload dX7_layLeast_110 rfl ?_
          refine tr_V.bd (fun c22 h23 => ?_)
          refine tr_V.callV (C_X7_isGood p1 s12.2.1 s12.2.2.1 s14.2 s12.2.2.2.2 _ h23) yk_X7_isGood iv_X7_isGood ml_X7_257 shM_1 rfl ⟨rfl, Nat.le_of_ble_eq_true rfl⟩ rfl (Nat.le_of_ble_eq_true rfl) rfl dX7_layLeast_112 ?_
          refine tr_V.if_eq (tgt := 138) dX7_layLeast_115 (by decide) ?_ ?_
          · refine tr_V.iconst (v := (0 : Int32)) dX7_layLeast_138 (by decide) ?_
            refine tr_V.isub dX7_layLeast_139 ?_
            refine tr_V.istore_n (i := 3) dX7_layLeast_140 rfl (Nat.le_of_ble_eq_true rfl) rfl ?_
            refine tr_V.iinc (cst := (1 : Int32)) dX7_layLeast_141 rfl (by decide) rfl ?_
            refine tr_V.goto (tgt := 68) dX7_layLeast_144 (by decide) ?_
            exact tr_V.to (fun h => h) ⟨rfl, rfl, rfl, rfl, rfl, rfl, rfl, trivial⟩
          · refine tr_V.aload_n (i := 0) dX7_layLeast_118 rfl rfl ?_
            refine tr_V.getR (Nat.succ_pos _) fl_X7_56 shM_1 rfl dX7_layLeast_119 ?_
            refine tr_V.iload dX7_layLeast_122 rfl ?_
            refine tr_V.iconst (v := (1 : Int32)) dX7_layLeast_124 (by decide) ?_
            refine tr_V.iload dX7_layLeast_125 rfl ?_
            refine tr_V.ishl dX7_layLeast_127 ?_
            refine tr_V.ior dX7_layLeast_128 ?_
            refine tr_V.iload dX7_layLeast_129 rfl ?_
            refine tr_V.callS (C_X7_spot (s12.2.1 ||| ((1 : Int32) <<< (s14.2 &&& 31))) s14.2 s12.2.2.2.2) yk_X7_spot sc_X7_spot ml_X7_243 ⟨rfl, Nat.le_of_ble_eq_true rfl⟩ rfl (Nat.le_of_ble_eq_true rfl) rfl dX7_layLeast_131 ?_
            refine tr_V.bd (fun a26 h27 => ?_)
            refine tr_V.iald h27 shM_17 dX7_layLeast_134 ?_
            refine tr_V.goto (tgt := 139) dX7_layLeast_135 (by decide) ?_
            refine tr_V.isub dX7_layLeast_139 ?_
            refine tr_V.istore_n (i := 3) dX7_layLeast_140 rfl (Nat.le_of_ble_eq_true rfl) rfl ?_
            refine tr_V.iinc (cst := (1 : Int32)) dX7_layLeast_141 rfl (by decide) rfl ?_
            refine tr_V.goto (tgt := 68) dX7_layLeast_144 (by decide) ?_
            exact tr_V.to (fun h => h) ⟨rfl, rfl, rfl, rfl, rfl, rfl, rfl, trivial⟩
      · intro v13
        refine tr_V.aload_n (i := 0) dX7_layLeast_147 rfl rfl ?_
        refine tr_V.getR (Nat.succ_pos _) fl_X7_41 shM_1 rfl dX7_layLeast_148 ?_
        refine tr_V.iload dX7_layLeast_151 rfl ?_
        refine tr_V.iload dX7_layLeast_153 rfl ?_
        refine tr_V.bd (fun M28 h29 => ?_)
        refine tr_V.iast h29 shM_12 dX7_layLeast_155 ?_
        refine tr_V.iload dX7_layLeast_156 rfl ?_
        refine tr_V.iconst (v := (1 : Int32)) dX7_layLeast_158 (by decide) ?_
        refine tr_V.iload dX7_layLeast_159 rfl ?_
        refine tr_V.ishl dX7_layLeast_161 ?_
        refine tr_V.ior dX7_layLeast_162 ?_
        refine tr_V.bd (fun x30 h31 => ?_)
        refine tr_V.nmI h31 ?_
        refine tr_V.istore (i := 4) dX7_layLeast_163 (Nat.le_of_ble_eq_true rfl) rfl ?_
        refine tr_V.iload dX7_layLeast_165 rfl ?_
        refine tr_V.istore (i := 5) dX7_layLeast_167 (Nat.le_of_ble_eq_true rfl) rfl ?_
        refine tr_V.iinc (cst := (1 : Int32)) dX7_layLeast_169 rfl (by decide) rfl ?_
        refine tr_V.goto (tgt := 56) dX7_layLeast_172 (by decide) ?_
        exact tr_V.to (fun h => h) ⟨rfl, rfl, rfl, rfl, rfl, rfl, trivial⟩
    · exact tr_V.vret dX7_layLeast_175 rfl (fun h => h)
abbrev xX7_first : tr_X := (cX7_first, 4, RX7, (some .int), 8, shM, 24)
theorem cw_X7_first : Cond.code yX7_first cX7_first 4 (some .int) ∈ tr_tbl := tr_in 1572 (by decide +kernel) rfl
theorem yk_X7_first : tr_yk yX7_first (xX7_first) 2 := ⟨cw_X7_first, in_X7, ⟨by decide +kernel, by decide +kernel, by decide +kernel⟩, Nat.le_of_ble_eq_true rfl⟩
theorem iv_X7_first : Cond.instanceMethod yX7_first ∈ tr_tbl ∧ Cond.selects (yX7_first).cls yX7_first yX7_first ∈ tr_tbl := ⟨tr_in 1570 (by decide +kernel) rfl, tr_in 1571 (by decide +kernel) rfl⟩
def mX7_first (p1 : Int32) (p2 : Int32) (M : tr_M) : Option (Int32 × tr_M) :=
  Option.bind (mX7_isMeasure p1) (fun c1 =>
  if c1 = 0 then (
    some ((-1 : Int32), M)
  ) else (
    Option.bind (mX7_isRow p2) (fun c3 =>
    if c3 = 0 then (
      some ((-1 : Int32), M)
    ) else (
      Option.bind (mX7_needLeast p1 M) (fun c5 =>
      if c5.1 < 0 then (
        some (c5.1, c5.2)
      ) else (
        Option.bind (mX7_layLeast p1 (0 : Int32) c5.2) (fun c7 =>
        Option.bind (mX7_lineToRow p2 c7) (fun c9 =>
        some ((c9.1 1 29), c9)
        )
        )
      )
      )
    )
    )
  )
  )
set_option maxRecDepth 100000 in
set_option maxHeartbeats 4000000 in
theorem C_X7_first (p1 : Int32) (p2 : Int32) (M : tr_M) (r : Int32 × tr_M) (h : mX7_first p1 p2 M = some r) : tr_I yX7_first (xX7_first) [.ref 1, .int p1, .int p2] M (some (.int r.1)) r.2 := by
  refine tr_I.of (Z := fun q : Int32 × tr_M => (some (.int r.1) : Option Value) = some (.int q.1) ∧ r.2 = q.2) pn_X7 rfl gdM (Nat.le_of_ble_eq_true rfl) (fun Wt => ?_) h ⟨rfl, rfl⟩
  unfold mX7_first
  refine tr_V.iload_n (i := 1) dX7_first_0 rfl rfl ?_
  refine tr_V.bd (fun c1 h2 => ?_)
  refine tr_V.callS (C_X7_isMeasure p1 M _ h2) yk_X7_isMeasure sc_X7_isMeasure ml_X7_211 ⟨rfl, Nat.le_of_ble_eq_true rfl⟩ rfl (Nat.le_of_ble_eq_true rfl) rfl dX7_first_1 ?_
  refine tr_V.if_eq (tgt := 14) dX7_first_4 (by decide) ?_ ?_
  · refine tr_V.iconst (v := (-1 : Int32)) dX7_first_14 (by decide) ?_
    exact tr_V.iret dX7_first_15 rfl (fun h => h)
  · refine tr_V.iload_n (i := 2) dX7_first_7 rfl rfl ?_
    refine tr_V.bd (fun c3 h4 => ?_)
    refine tr_V.callS (C_X7_isRow p2 M _ h4) yk_X7_isRow sc_X7_isRow ml_X7_102 ⟨rfl, Nat.le_of_ble_eq_true rfl⟩ rfl (Nat.le_of_ble_eq_true rfl) rfl dX7_first_8 ?_
    refine tr_V.if_ne (tgt := 16) dX7_first_11 (by decide) ?_ ?_
    · refine tr_V.iconst (v := (-1 : Int32)) dX7_first_14 (by decide) ?_
      exact tr_V.iret dX7_first_15 rfl (fun h => h)
    · refine tr_V.aload_n (i := 0) dX7_first_16 rfl rfl ?_
      refine tr_V.iload_n (i := 1) dX7_first_17 rfl rfl ?_
      refine tr_V.bd (fun c5 h6 => ?_)
      refine tr_V.callV (C_X7_needLeast p1 M _ h6) yk_X7_needLeast iv_X7_needLeast ml_X7_299 shM_1 rfl ⟨rfl, Nat.le_of_ble_eq_true rfl⟩ rfl (Nat.le_of_ble_eq_true rfl) rfl dX7_first_18 ?_
      refine tr_V.istore_n (i := 3) dX7_first_21 rfl (Nat.le_of_ble_eq_true rfl) rfl ?_
      refine tr_V.iload_n (i := 3) dX7_first_22 rfl rfl ?_
      refine tr_V.if_ge (tgt := 28) dX7_first_23 (by decide) ?_ ?_
      · refine tr_V.iload_n (i := 3) dX7_first_26 rfl rfl ?_
        exact tr_V.iret dX7_first_27 rfl (fun h => h)
      · refine tr_V.aload_n (i := 0) dX7_first_28 rfl rfl ?_
        refine tr_V.iload_n (i := 1) dX7_first_29 rfl rfl ?_
        refine tr_V.iconst (v := (0 : Int32)) dX7_first_30 (by decide) ?_
        refine tr_V.bd (fun c7 h8 => ?_)
        refine tr_V.callV (C_X7_layLeast p1 (0 : Int32) c5.2 _ h8) yk_X7_layLeast iv_X7_layLeast ml_X7_305 shM_1 rfl ⟨rfl, Nat.le_of_ble_eq_true rfl⟩ rfl (Nat.le_of_ble_eq_true rfl) rfl dX7_first_31 ?_
        refine tr_V.aload_n (i := 0) dX7_first_34 rfl rfl ?_
        refine tr_V.iload_n (i := 2) dX7_first_35 rfl rfl ?_
        refine tr_V.bd (fun c9 h10 => ?_)
        refine tr_V.callV (C_X7_lineToRow p2 c7 _ h10) yk_X7_lineToRow iv_X7_lineToRow ml_X7_308 shM_1 rfl ⟨rfl, Nat.le_of_ble_eq_true rfl⟩ rfl (Nat.le_of_ble_eq_true rfl) rfl dX7_first_36 ?_
        refine tr_V.aload_n (i := 0) dX7_first_39 rfl rfl ?_
        refine tr_V.getI fl_X7_251 shM_1 rfl dX7_first_40 ?_
        exact tr_V.iret dX7_first_43 rfl (fun h => h)
abbrev xX7_ways : tr_X := (cX7_ways, 2, RX7, (some .int), 7, shM, 24)
theorem cw_X7_ways : Cond.code yX7_ways cX7_ways 2 (some .int) ∈ tr_tbl := tr_in 1588 (by decide +kernel) rfl
theorem yk_X7_ways : tr_yk yX7_ways (xX7_ways) 1 := ⟨cw_X7_ways, in_X7, ⟨by decide +kernel, by decide +kernel, by decide +kernel⟩, Nat.le_of_ble_eq_true rfl⟩
theorem iv_X7_ways : Cond.instanceMethod yX7_ways ∈ tr_tbl ∧ Cond.selects (yX7_ways).cls yX7_ways yX7_ways ∈ tr_tbl := ⟨tr_in 1586 (by decide +kernel) rfl, tr_in 1587 (by decide +kernel) rfl⟩
def mX7_ways (p1 : Int32) (M : tr_M) : Option (Int32 × tr_M) :=
  Option.bind (mX7_isMeasure p1) (fun c1 =>
  if c1 = 0 then (
    some ((-1 : Int32), M)
  ) else (
    if (mX7_isTooLong p1 M) = 0 then (
      Option.bind (mX7_leastOf p1 M) (fun c5 =>
      if c5.1 < (1000000 : Int32) then (
        if p1 = (4 : Int32) then (
          Option.bind (mX7_waysReach c5.2) (fun c7 =>
          some (c7.1, c7.2)
          )
        ) else (
          Option.bind (mX7_layWays p1 c5.2) (fun c9 =>
          some ((c9.1 1 30), c9)
          )
        )
      ) else (
        some ((0 : Int32), c5.2)
      )
      )
    ) else (
      some ((-6 : Int32), M)
    )
  )
  )
set_option maxRecDepth 100000 in
set_option maxHeartbeats 4000000 in
theorem C_X7_ways (p1 : Int32) (M : tr_M) (r : Int32 × tr_M) (h : mX7_ways p1 M = some r) : tr_I yX7_ways (xX7_ways) [.ref 1, .int p1] M (some (.int r.1)) r.2 := by
  refine tr_I.of (Z := fun q : Int32 × tr_M => (some (.int r.1) : Option Value) = some (.int q.1) ∧ r.2 = q.2) pn_X7 rfl gdM (Nat.le_of_ble_eq_true rfl) (fun Wt => ?_) h ⟨rfl, rfl⟩
  unfold mX7_ways
  refine tr_V.iload_n (i := 1) dX7_ways_0 rfl rfl ?_
  refine tr_V.bd (fun c1 h2 => ?_)
  refine tr_V.callS (C_X7_isMeasure p1 M _ h2) yk_X7_isMeasure sc_X7_isMeasure ml_X7_211 ⟨rfl, Nat.le_of_ble_eq_true rfl⟩ rfl (Nat.le_of_ble_eq_true rfl) rfl dX7_ways_1 ?_
  refine tr_V.if_ne (tgt := 9) dX7_ways_4 (by decide) ?_ ?_
  · refine tr_V.iconst (v := (-1 : Int32)) dX7_ways_7 (by decide) ?_
    exact tr_V.iret dX7_ways_8 rfl (fun h => h)
  · refine tr_V.aload_n (i := 0) dX7_ways_9 rfl rfl ?_
    refine tr_V.iload_n (i := 1) dX7_ways_10 rfl rfl ?_
    refine tr_V.callV (C_X7_isTooLong p1 M) yk_X7_isTooLong iv_X7_isTooLong ml_X7_286 shM_1 rfl ⟨rfl, Nat.le_of_ble_eq_true rfl⟩ rfl (Nat.le_of_ble_eq_true rfl) rfl dX7_ways_11 ?_
    refine tr_V.if_eq (tgt := 20) dX7_ways_14 (by decide) ?_ ?_
    · refine tr_V.aload_n (i := 0) dX7_ways_20 rfl rfl ?_
      refine tr_V.iload_n (i := 1) dX7_ways_21 rfl rfl ?_
      refine tr_V.bd (fun c5 h6 => ?_)
      refine tr_V.callV (C_X7_leastOf p1 M _ h6) yk_X7_leastOf iv_X7_leastOf ml_X7_289 shM_1 rfl ⟨rfl, Nat.le_of_ble_eq_true rfl⟩ rfl (Nat.le_of_ble_eq_true rfl) rfl dX7_ways_22 ?_
      refine tr_V.ldc ct_X7_246 dX7_ways_25 ?_
      refine tr_V.icmp_lt (tgt := 32) dX7_ways_27 (by decide) ?_ ?_
      · refine tr_V.iload_n (i := 1) dX7_ways_32 rfl rfl ?_
        refine tr_V.iconst (v := (4 : Int32)) dX7_ways_33 (by decide) ?_
        refine tr_V.icmp_ne (tgt := 42) dX7_ways_34 (by decide) ?_ ?_
        · refine tr_V.aload_n (i := 0) dX7_ways_37 rfl rfl ?_
          refine tr_V.bd (fun c7 h8 => ?_)
          refine tr_V.callV (C_X7_waysReach c5.2 _ h8) yk_X7_waysReach iv_X7_waysReach ml_X7_292 shM_1 rfl ⟨rfl, Nat.le_of_ble_eq_true rfl⟩ rfl (Nat.le_of_ble_eq_true rfl) rfl dX7_ways_38 ?_
          exact tr_V.iret dX7_ways_41 rfl (fun h => h)
        · refine tr_V.aload_n (i := 0) dX7_ways_42 rfl rfl ?_
          refine tr_V.iload_n (i := 1) dX7_ways_43 rfl rfl ?_
          refine tr_V.bd (fun c9 h10 => ?_)
          refine tr_V.callV (C_X7_layWays p1 c5.2 _ h10) yk_X7_layWays iv_X7_layWays ml_X7_295 shM_1 rfl ⟨rfl, Nat.le_of_ble_eq_true rfl⟩ rfl (Nat.le_of_ble_eq_true rfl) rfl dX7_ways_44 ?_
          refine tr_V.aload_n (i := 0) dX7_ways_47 rfl rfl ?_
          refine tr_V.getI fl_X7_260 shM_1 rfl dX7_ways_48 ?_
          exact tr_V.iret dX7_ways_51 rfl (fun h => h)
      · refine tr_V.iconst (v := (0 : Int32)) dX7_ways_30 (by decide) ?_
        exact tr_V.iret dX7_ways_31 rfl (fun h => h)
    · refine tr_V.bipush (v := (-6 : Int32)) dX7_ways_17 (by decide) ?_
      exact tr_V.iret dX7_ways_19 rfl (fun h => h)
abbrev xX7_isWanted : tr_X := (cX7_isWanted, 3, RX7, (some .boolean), 1, shM, 24)
theorem cw_X7_isWanted : Cond.code yX7_isWanted cX7_isWanted 3 (some .boolean) ∈ tr_tbl := tr_in 1600 (by decide +kernel) rfl
theorem yk_X7_isWanted : tr_yk yX7_isWanted (xX7_isWanted) 0 := ⟨cw_X7_isWanted, in_X7, ⟨by decide +kernel, by decide +kernel, by decide +kernel⟩, Nat.le_of_ble_eq_true rfl⟩
theorem iv_X7_isWanted : Cond.instanceMethod yX7_isWanted ∈ tr_tbl ∧ Cond.selects (yX7_isWanted).cls yX7_isWanted yX7_isWanted ∈ tr_tbl := ⟨tr_in 1599 (by decide +kernel) rfl, tr_in 105 (by decide +kernel) rfl⟩
def mX7_isWanted_l4 (M : tr_M) (s1 : Int32 × Int32) : Option ((Int32 × Int32) ⊕ (Int32)) :=
  if s1.2 < (M.1 1 10) then (
    if s1.1 = 0 then (
      some (.inl ((0 : Int32), (s1.2 + (1 : Int32))))
    ) else (
      Option.bind (tr_rd 10 M 12 s1.2) (fun a2 =>
      Option.bind (tr_rd 10 M 19 s1.2) (fun a4 =>
      if a2 = a4 then (
        some (.inl ((1 : Int32), (s1.2 + (1 : Int32))))
      ) else (
        some (.inl ((0 : Int32), (s1.2 + (1 : Int32))))
      )
      )
      )
    )
  ) else (
    Option.bind (tr_gd (s1.1 &&& 1 == s1.1)) (fun _ => some (.inr s1.1))
  )
def mX7_isWanted  (M : tr_M) : Option (Int32) :=
  tr_loop (mX7_isWanted_l4 M) ((1 : Int32), (0 : Int32))
set_option maxRecDepth 100000 in
set_option maxHeartbeats 4000000 in
theorem C_X7_isWanted  (M : tr_M) (r : Int32) (h : mX7_isWanted M = some r) : tr_I yX7_isWanted (xX7_isWanted) [.ref 1] M (some (.int r)) M := by
  refine tr_I.of (Z := fun q : Int32 => (some (.int r) : Option Value) = some (.int q) ∧ M = M) pn_X7 rfl gdM (Nat.le_of_ble_eq_true rfl) (fun Wt => ?_) h ⟨rfl, rfl⟩
  unfold mX7_isWanted
  refine tr_V.iconst (v := (1 : Int32)) dX7_isWanted_0 (by decide) ?_
  refine tr_V.istore_n (i := 1) dX7_isWanted_1 rfl (Nat.le_of_ble_eq_true rfl) rfl ?_
  refine tr_V.iconst (v := (0 : Int32)) dX7_isWanted_2 (by decide) ?_
  refine tr_V.istore_n (i := 2) dX7_isWanted_3 rfl (Nat.le_of_ble_eq_true rfl) rfl ?_
  refine tr_V.loop (σ := Int32 × Int32) (step := mX7_isWanted_l4 M) (L := fun s1 => [(0, some (.ref 1)), (1, some (.int s1.1)), (2, some (.int s1.2))]) (Mf := fun s1 => M) ?_ ((1 : Int32), (0 : Int32)) ⟨rfl, rfl, rfl, trivial⟩
  intro s1
  refine tr_V.iload_n (i := 2) dX7_isWanted_4 rfl rfl ?_
  refine tr_V.aload_n (i := 0) dX7_isWanted_5 rfl rfl ?_
  refine tr_V.getI fl_X7_157 shM_1 rfl dX7_isWanted_6 ?_
  refine tr_V.icmp_ge (tgt := 43) dX7_isWanted_9 (by decide) ?_ ?_
  · refine tr_V.iload_n (i := 1) dX7_isWanted_12 rfl rfl ?_
    refine tr_V.if_eq (tgt := 35) dX7_isWanted_13 (by decide) ?_ ?_
    · refine tr_V.iconst (v := (0 : Int32)) dX7_isWanted_35 (by decide) ?_
      refine tr_V.istore_n (i := 1) dX7_isWanted_36 rfl (Nat.le_of_ble_eq_true rfl) rfl ?_
      refine tr_V.iinc (cst := (1 : Int32)) dX7_isWanted_37 rfl (by decide) rfl ?_
      refine tr_V.goto (tgt := 4) dX7_isWanted_40 (by decide) ?_
      exact tr_V.to (fun h => h) ⟨rfl, rfl, rfl, trivial⟩
    · refine tr_V.aload_n (i := 0) dX7_isWanted_16 rfl rfl ?_
      refine tr_V.getR (Nat.succ_pos _) fl_X7_41 shM_1 rfl dX7_isWanted_17 ?_
      refine tr_V.iload_n (i := 2) dX7_isWanted_20 rfl rfl ?_
      refine tr_V.bd (fun a2 h3 => ?_)
      refine tr_V.iald h3 shM_12 dX7_isWanted_21 ?_
      refine tr_V.aload_n (i := 0) dX7_isWanted_22 rfl rfl ?_
      refine tr_V.getR (Nat.succ_pos _) fl_X7_62 shM_1 rfl dX7_isWanted_23 ?_
      refine tr_V.iload_n (i := 2) dX7_isWanted_26 rfl rfl ?_
      refine tr_V.bd (fun a4 h5 => ?_)
      refine tr_V.iald h5 shM_19 dX7_isWanted_27 ?_
      refine tr_V.icmp_ne (tgt := 35) dX7_isWanted_28 (by decide) ?_ ?_
      · refine tr_V.iconst (v := (1 : Int32)) dX7_isWanted_31 (by decide) ?_
        refine tr_V.goto (tgt := 36) dX7_isWanted_32 (by decide) ?_
        refine tr_V.istore_n (i := 1) dX7_isWanted_36 rfl (Nat.le_of_ble_eq_true rfl) rfl ?_
        refine tr_V.iinc (cst := (1 : Int32)) dX7_isWanted_37 rfl (by decide) rfl ?_
        refine tr_V.goto (tgt := 4) dX7_isWanted_40 (by decide) ?_
        exact tr_V.to (fun h => h) ⟨rfl, rfl, rfl, trivial⟩
      · refine tr_V.iconst (v := (0 : Int32)) dX7_isWanted_35 (by decide) ?_
        refine tr_V.istore_n (i := 1) dX7_isWanted_36 rfl (Nat.le_of_ble_eq_true rfl) rfl ?_
        refine tr_V.iinc (cst := (1 : Int32)) dX7_isWanted_37 rfl (by decide) rfl ?_
        refine tr_V.goto (tgt := 4) dX7_isWanted_40 (by decide) ?_
        exact tr_V.to (fun h => h) ⟨rfl, rfl, rfl, trivial⟩
  · refine tr_V.iload_n (i := 1) dX7_isWanted_43 rfl rfl ?_
    refine tr_V.gd (fun h6 => ?_)
    exact tr_V.zret h6 dX7_isWanted_44 rfl (fun h => h)
abbrev xX7_rankReach : tr_X := (cX7_rankReach, 2, RX7, (some .int), 6, shM, 24)
theorem cw_X7_rankReach : Cond.code yX7_rankReach cX7_rankReach 2 (some .int) ∈ tr_tbl := tr_in 1596 (by decide +kernel) rfl
theorem yk_X7_rankReach : tr_yk yX7_rankReach (xX7_rankReach) 0 := ⟨cw_X7_rankReach, in_X7, ⟨by decide +kernel, by decide +kernel, by decide +kernel⟩, Nat.le_of_ble_eq_true rfl⟩
theorem iv_X7_rankReach : Cond.instanceMethod yX7_rankReach ∈ tr_tbl ∧ Cond.selects (yX7_rankReach).cls yX7_rankReach yX7_rankReach ∈ tr_tbl := ⟨tr_in 1595 (by decide +kernel) rfl, tr_in 104 (by decide +kernel) rfl⟩
def mX7_rankReach_l6  (s4 : Int32 × tr_M) : Option ((Int32 × tr_M) ⊕ (Int32 × tr_M)) :=
  Option.bind (mX7_isWanted s4.2) (fun c5 =>
  if c5 = 0 then (
    Option.bind (mX7_isLeastReach s4.2) (fun c7 =>
    Option.bind (show Option (Int32) from
      if c7 = 0 then (
        some (0 : Int32)
      ) else (
        some (1 : Int32)
      )
    ) (fun (v9 : Int32) =>
      Option.bind (mX7_nextLine s4.2) (fun c10 =>
      some (.inl ((s4.1 + v9), c10.2))
      )
    )
    )
  ) else (
    some (.inr (s4.1, s4.2))
  )
  )
def mX7_rankReach  (M : tr_M) : Option (Int32 × tr_M) :=
  Option.bind (mX7_firstLine M) (fun c1 =>
  Option.bind (show Option (Int32 × tr_M) from
    tr_loop (mX7_rankReach_l6) ((0 : Int32), c1)
  ) (fun (v3 : Int32 × tr_M) =>
    Option.bind (mX7_isLeastReach v3.2) (fun c12 =>
    if c12 = 0 then (
      some ((-9 : Int32), v3.2)
    ) else (
      some (v3.1, v3.2)
    )
    )
  )
  )
set_option maxRecDepth 100000 in
set_option maxHeartbeats 4000000 in
theorem C_X7_rankReach  (M : tr_M) (r : Int32 × tr_M) (h : mX7_rankReach M = some r) : tr_I yX7_rankReach (xX7_rankReach) [.ref 1] M (some (.int r.1)) r.2 := by
  refine tr_I.of (Z := fun q : Int32 × tr_M => (some (.int r.1) : Option Value) = some (.int q.1) ∧ r.2 = q.2) pn_X7 rfl gdM (Nat.le_of_ble_eq_true rfl) (fun Wt => ?_) h ⟨rfl, rfl⟩
  unfold mX7_rankReach
  refine tr_V.iconst (v := (0 : Int32)) dX7_rankReach_0 (by decide) ?_
  refine tr_V.istore_n (i := 1) dX7_rankReach_1 rfl (Nat.le_of_ble_eq_true rfl) rfl ?_
  refine tr_V.aload_n (i := 0) dX7_rankReach_2 rfl rfl ?_
  refine tr_V.bd (fun c1 h2 => ?_)
  refine tr_V.callV (C_X7_firstLine M _ h2) yk_X7_firstLine iv_X7_firstLine ml_X7_267 shM_1 rfl ⟨rfl, Nat.le_of_ble_eq_true rfl⟩ rfl (Nat.le_of_ble_eq_true rfl) rfl dX7_rankReach_3 ?_
  refine tr_V.seq (τ := Int32 × tr_M) (pc' := 36) (L := fun v3 => [(0, some (.ref 1)), (1, some (.int v3.1))]) (S := fun v3 => []) (Mf := fun v3 => v3.2) ?_ ?_
  · refine tr_V.loop (σ := Int32 × tr_M) (step := mX7_rankReach_l6) (L := fun s4 => [(0, some (.ref 1)), (1, some (.int s4.1))]) (Mf := fun s4 => s4.2) ?_ ((0 : Int32), c1) ⟨rfl, rfl, trivial⟩
    intro s4
    refine tr_V.aload_n (i := 0) dX7_rankReach_6 rfl rfl ?_
    refine tr_V.bd (fun c5 h6 => ?_)
    refine tr_V.callV (C_X7_isWanted s4.2 _ h6) yk_X7_isWanted iv_X7_isWanted ml_X7_317 shM_1 rfl ⟨rfl, Nat.le_of_ble_eq_true rfl⟩ rfl (Nat.le_of_ble_eq_true rfl) rfl dX7_rankReach_7 ?_
    refine tr_V.if_ne (tgt := 36) dX7_rankReach_10 (by decide) ?_ ?_
    · refine tr_V.iload_n (i := 1) dX7_rankReach_13 rfl rfl ?_
      refine tr_V.aload_n (i := 0) dX7_rankReach_14 rfl rfl ?_
      refine tr_V.bd (fun c7 h8 => ?_)
      refine tr_V.callV (C_X7_isLeastReach s4.2 _ h8) yk_X7_isLeastReach iv_X7_isLeastReach ml_X7_277 shM_1 rfl ⟨rfl, Nat.le_of_ble_eq_true rfl⟩ rfl (Nat.le_of_ble_eq_true rfl) rfl dX7_rankReach_15 ?_
      refine tr_V.seq (τ := Int32) (pc' := 26) (L := fun v9 => [(0, some (.ref 1))]) (S := fun v9 => [.int v9, .int s4.1]) (Mf := fun v9 => s4.2) ?_ ?_
      · refine tr_V.if_eq (tgt := 25) dX7_rankReach_18 (by decide) ?_ ?_
        · refine tr_V.iconst (v := (0 : Int32)) dX7_rankReach_25 (by decide) ?_
          exact tr_V.to (fun h => h) ⟨rfl, trivial⟩
        · refine tr_V.iconst (v := (1 : Int32)) dX7_rankReach_21 (by decide) ?_
          refine tr_V.goto (tgt := 26) dX7_rankReach_22 (by decide) ?_
          exact tr_V.to (fun h => h) ⟨rfl, trivial⟩
      · intro v9
        refine tr_V.iadd dX7_rankReach_26 ?_
        refine tr_V.istore_n (i := 1) dX7_rankReach_27 rfl (Nat.le_of_ble_eq_true rfl) rfl ?_
        refine tr_V.aload_n (i := 0) dX7_rankReach_28 rfl rfl ?_
        refine tr_V.bd (fun c10 h11 => ?_)
        refine tr_V.callV (C_X7_nextLine s4.2 _ h11) yk_X7_nextLine iv_X7_nextLine ml_X7_274 shM_1 rfl ⟨rfl, Nat.le_of_ble_eq_true rfl⟩ rfl (Nat.le_of_ble_eq_true rfl) rfl dX7_rankReach_29 ?_
        refine tr_V.pop rfl dX7_rankReach_32 ?_
        refine tr_V.goto (tgt := 6) dX7_rankReach_33 (by decide) ?_
        exact tr_V.to (fun h => h) ⟨rfl, rfl, trivial⟩
    · exact tr_V.to (fun h => h) ⟨rfl, rfl, trivial⟩
  · intro v3
    refine tr_V.aload_n (i := 0) dX7_rankReach_36 rfl rfl ?_
    refine tr_V.bd (fun c12 h13 => ?_)
    refine tr_V.callV (C_X7_isLeastReach v3.2 _ h13) yk_X7_isLeastReach iv_X7_isLeastReach ml_X7_277 shM_1 rfl ⟨rfl, Nat.le_of_ble_eq_true rfl⟩ rfl (Nat.le_of_ble_eq_true rfl) rfl dX7_rankReach_37 ?_
    refine tr_V.if_eq (tgt := 47) dX7_rankReach_40 (by decide) ?_ ?_
    · refine tr_V.bipush (v := (-9 : Int32)) dX7_rankReach_47 (by decide) ?_
      exact tr_V.iret dX7_rankReach_49 rfl (fun h => h)
    · refine tr_V.iload_n (i := 1) dX7_rankReach_43 rfl rfl ?_
      refine tr_V.goto (tgt := 49) dX7_rankReach_44 (by decide) ?_
      exact tr_V.iret dX7_rankReach_49 rfl (fun h => h)
abbrev xX7_rankBySets : tr_X := (cX7_rankBySets, 7, RX7, (some .int), 5, shM, 24)
theorem cw_X7_rankBySets : Cond.code yX7_rankBySets cX7_rankBySets 7 (some .int) ∈ tr_tbl := tr_in 1604 (by decide +kernel) rfl
theorem yk_X7_rankBySets : tr_yk yX7_rankBySets (xX7_rankBySets) 1 := ⟨cw_X7_rankBySets, in_X7, ⟨by decide +kernel, by decide +kernel, by decide +kernel⟩, Nat.le_of_ble_eq_true rfl⟩
theorem iv_X7_rankBySets : Cond.instanceMethod yX7_rankBySets ∈ tr_tbl ∧ Cond.selects (yX7_rankBySets).cls yX7_rankBySets yX7_rankBySets ∈ tr_tbl := ⟨tr_in 1603 (by decide +kernel) rfl, tr_in 106 (by decide +kernel) rfl⟩
def mX7_rankBySets_l23 (p1 : Int32) (M : tr_M) (s1 : Int32 × Int32 × Int32 × Int32) (s3 : Int32 × Int32) : Option ((Int32 × Int32) ⊕ (Int32)) :=
  Option.bind (tr_rd 10 M 19 s1.2.2.2) (fun a4 =>
  if s3.2 < a4 then (
    Option.bind (mX7_isGood p1 s1.2.1 s1.2.2.1 s3.2 M) (fun c6 =>
    if c6 = 0 then (
      some (.inl ((s3.1 + (0 : Int32)), (s3.2 + (1 : Int32))))
    ) else (
      Option.bind (tr_rd 10240 M 17 (mX7_spot (s1.2.1 ||| ((1 : Int32) <<< (s3.2 &&& 31))) s3.2)) (fun a10 =>
      some (.inl ((s3.1 + a10), (s3.2 + (1 : Int32))))
      )
    )
    )
  ) else (
    some (.inr s3.1)
  )
  )
def mX7_rankBySets_l11 (p1 : Int32) (M : tr_M) (s1 : Int32 × Int32 × Int32 × Int32) : Option ((Int32 × Int32 × Int32 × Int32) ⊕ (Int32)) :=
  if s1.2.2.2 < (M.1 1 10) then (
    Option.bind (show Option (Int32) from
      tr_loop (mX7_rankBySets_l23 p1 M s1) (s1.1, (0 : Int32))
    ) (fun (v2 : Int32) =>
      Option.bind (tr_rd 10 M 19 s1.2.2.2) (fun a12 =>
      Option.bind (mX7_isGood p1 s1.2.1 s1.2.2.1 a12 M) (fun c14 =>
      if c14 = 0 then (
        some (.inr (-9 : Int32))
      ) else (
        Option.bind (tr_rd 10 M 19 s1.2.2.2) (fun a16 =>
        Option.bind (some (s1.2.1 ||| ((1 : Int32) <<< (a16 &&& 31)))) (fun x18 =>
        Option.bind (tr_rd 10 M 19 s1.2.2.2) (fun a20 =>
        some (.inl (v2, x18, a20, (s1.2.2.2 + (1 : Int32))))
        )
        )
        )
      )
      )
      )
    )
  ) else (
    some (.inr s1.1)
  )
def mX7_rankBySets (p1 : Int32) (M : tr_M) : Option (Int32) :=
  tr_loop (mX7_rankBySets_l11 p1 M) ((0 : Int32), (0 : Int32), (-9 : Int32), (0 : Int32))
set_option maxRecDepth 100000 in
set_option maxHeartbeats 4000000 in
theorem C_X7_rankBySets (p1 : Int32) (M : tr_M) (r : Int32) (h : mX7_rankBySets p1 M = some r) : tr_I yX7_rankBySets (xX7_rankBySets) [.ref 1, .int p1] M (some (.int r)) M := by
  refine tr_I.of (Z := fun q : Int32 => (some (.int r) : Option Value) = some (.int q) ∧ M = M) pn_X7 rfl gdM (Nat.le_of_ble_eq_true rfl) (fun Wt => ?_) h ⟨rfl, rfl⟩
  unfold mX7_rankBySets
  refine tr_V.iconst (v := (0 : Int32)) dX7_rankBySets_0 (by decide) ?_
  refine tr_V.istore_n (i := 2) dX7_rankBySets_1 rfl (Nat.le_of_ble_eq_true rfl) rfl ?_
  refine tr_V.iconst (v := (0 : Int32)) dX7_rankBySets_2 (by decide) ?_
  refine tr_V.istore_n (i := 3) dX7_rankBySets_3 rfl (Nat.le_of_ble_eq_true rfl) rfl ?_
  refine tr_V.bipush (v := (-9 : Int32)) dX7_rankBySets_4 (by decide) ?_
  refine tr_V.istore (i := 4) dX7_rankBySets_6 (Nat.le_of_ble_eq_true rfl) rfl ?_
  refine tr_V.iconst (v := (0 : Int32)) dX7_rankBySets_8 (by decide) ?_
  refine tr_V.istore (i := 5) dX7_rankBySets_9 (Nat.le_of_ble_eq_true rfl) rfl ?_
  refine tr_V.loop (σ := Int32 × Int32 × Int32 × Int32) (step := mX7_rankBySets_l11 p1 M) (L := fun s1 => [(0, some (.ref 1)), (1, some (.int p1)), (2, some (.int s1.1)), (3, some (.int s1.2.1)), (4, some (.int s1.2.2.1)), (5, some (.int s1.2.2.2))]) (Mf := fun s1 => M) ?_ ((0 : Int32), (0 : Int32), (-9 : Int32), (0 : Int32)) ⟨rfl, rfl, rfl, rfl, rfl, rfl, trivial⟩
  intro s1
  refine tr_V.iload dX7_rankBySets_11 rfl ?_
  refine tr_V.aload_n (i := 0) dX7_rankBySets_13 rfl rfl ?_
  refine tr_V.getI fl_X7_157 shM_1 rfl dX7_rankBySets_14 ?_
  refine tr_V.icmp_ge (tgt := 125) dX7_rankBySets_17 (by decide) ?_ ?_
  · refine tr_V.iconst (v := (0 : Int32)) dX7_rankBySets_20 (by decide) ?_
    refine tr_V.istore (i := 6) dX7_rankBySets_21 (Nat.le_of_ble_eq_true rfl) rfl ?_
    refine tr_V.seq (τ := Int32) (pc' := 77) (L := fun v2 => [(0, some (.ref 1)), (1, some (.int p1)), (2, some (.int v2)), (3, some (.int s1.2.1)), (4, some (.int s1.2.2.1)), (5, some (.int s1.2.2.2))]) (S := fun v2 => []) (Mf := fun v2 => M) ?_ ?_
    · refine tr_V.loop (σ := Int32 × Int32) (step := mX7_rankBySets_l23 p1 M s1) (L := fun s3 => [(0, some (.ref 1)), (1, some (.int p1)), (2, some (.int s3.1)), (3, some (.int s1.2.1)), (4, some (.int s1.2.2.1)), (5, some (.int s1.2.2.2)), (6, some (.int s3.2))]) (Mf := fun s3 => M) ?_ (s1.1, (0 : Int32)) ⟨rfl, rfl, rfl, rfl, rfl, rfl, rfl, trivial⟩
      intro s3
      refine tr_V.iload dX7_rankBySets_23 rfl ?_
      refine tr_V.aload_n (i := 0) dX7_rankBySets_25 rfl rfl ?_
      refine tr_V.getR (Nat.succ_pos _) fl_X7_62 shM_1 rfl dX7_rankBySets_26 ?_
      refine tr_V.iload dX7_rankBySets_29 rfl ?_
      refine tr_V.bd (fun a4 h5 => ?_)
      refine tr_V.iald h5 shM_19 dX7_rankBySets_31 ?_
      refine tr_V.icmp_ge (tgt := 77) dX7_rankBySets_32 (by decide) ?_ ?_
      · refine tr_V.iload_n (i := 2) dX7_rankBySets_35 rfl rfl ?_
        refine tr_V.aload_n (i := 0) dX7_rankBySets_36 rfl rfl ?_
        refine tr_V.iload_n (i := 1) dX7_rankBySets_37 rfl rfl ?_
        refine tr_V.iload_n (i := 3) dX7_rankBySets_38 rfl rfl ?_
        refine tr_V.iload dX7_rankBySets_39 rfl ?_
        refine tr_V.iload dX7_rankBySets_41 rfl ?_
        refine tr_V.bd (fun c6 h7 => ?_)
        refine tr_V.callV (C_X7_isGood p1 s1.2.1 s1.2.2.1 s3.2 M _ h7) yk_X7_isGood iv_X7_isGood ml_X7_257 shM_1 rfl ⟨rfl, Nat.le_of_ble_eq_true rfl⟩ rfl (Nat.le_of_ble_eq_true rfl) rfl dX7_rankBySets_43 ?_
        refine tr_V.if_eq (tgt := 68) dX7_rankBySets_46 (by decide) ?_ ?_
        · refine tr_V.iconst (v := (0 : Int32)) dX7_rankBySets_68 (by decide) ?_
          refine tr_V.iadd dX7_rankBySets_69 ?_
          refine tr_V.istore_n (i := 2) dX7_rankBySets_70 rfl (Nat.le_of_ble_eq_true rfl) rfl ?_
          refine tr_V.iinc (cst := (1 : Int32)) dX7_rankBySets_71 rfl (by decide) rfl ?_
          refine tr_V.goto (tgt := 23) dX7_rankBySets_74 (by decide) ?_
          exact tr_V.to (fun h => h) ⟨rfl, rfl, rfl, rfl, rfl, rfl, rfl, trivial⟩
        · refine tr_V.aload_n (i := 0) dX7_rankBySets_49 rfl rfl ?_
          refine tr_V.getR (Nat.succ_pos _) fl_X7_56 shM_1 rfl dX7_rankBySets_50 ?_
          refine tr_V.iload_n (i := 3) dX7_rankBySets_53 rfl rfl ?_
          refine tr_V.iconst (v := (1 : Int32)) dX7_rankBySets_54 (by decide) ?_
          refine tr_V.iload dX7_rankBySets_55 rfl ?_
          refine tr_V.ishl dX7_rankBySets_57 ?_
          refine tr_V.ior dX7_rankBySets_58 ?_
          refine tr_V.iload dX7_rankBySets_59 rfl ?_
          refine tr_V.callS (C_X7_spot (s1.2.1 ||| ((1 : Int32) <<< (s3.2 &&& 31))) s3.2 M) yk_X7_spot sc_X7_spot ml_X7_243 ⟨rfl, Nat.le_of_ble_eq_true rfl⟩ rfl (Nat.le_of_ble_eq_true rfl) rfl dX7_rankBySets_61 ?_
          refine tr_V.bd (fun a10 h11 => ?_)
          refine tr_V.iald h11 shM_17 dX7_rankBySets_64 ?_
          refine tr_V.goto (tgt := 69) dX7_rankBySets_65 (by decide) ?_
          refine tr_V.iadd dX7_rankBySets_69 ?_
          refine tr_V.istore_n (i := 2) dX7_rankBySets_70 rfl (Nat.le_of_ble_eq_true rfl) rfl ?_
          refine tr_V.iinc (cst := (1 : Int32)) dX7_rankBySets_71 rfl (by decide) rfl ?_
          refine tr_V.goto (tgt := 23) dX7_rankBySets_74 (by decide) ?_
          exact tr_V.to (fun h => h) ⟨rfl, rfl, rfl, rfl, rfl, rfl, rfl, trivial⟩
      · exact tr_V.to (fun h => h) ⟨rfl, rfl, rfl, rfl, rfl, rfl, trivial⟩
    · intro v2
      refine tr_V.aload_n (i := 0) dX7_rankBySets_77 rfl rfl ?_
      refine tr_V.iload_n (i := 1) dX7_rankBySets_78 rfl rfl ?_
      refine tr_V.iload_n (i := 3) dX7_rankBySets_79 rfl rfl ?_
      refine tr_V.iload dX7_rankBySets_80 rfl ?_
      refine tr_V.aload_n (i := 0) dX7_rankBySets_82 rfl rfl ?_
      refine tr_V.getR (Nat.succ_pos _) fl_X7_62 shM_1 rfl dX7_rankBySets_83 ?_
      refine tr_V.iload dX7_rankBySets_86 rfl ?_
      refine tr_V.bd (fun a12 h13 => ?_)
      refine tr_V.iald h13 shM_19 dX7_rankBySets_88 ?_
      refine tr_V.bd (fun c14 h15 => ?_)
      refine tr_V.callV (C_X7_isGood p1 s1.2.1 s1.2.2.1 a12 M _ h15) yk_X7_isGood iv_X7_isGood ml_X7_257 shM_1 rfl ⟨rfl, Nat.le_of_ble_eq_true rfl⟩ rfl (Nat.le_of_ble_eq_true rfl) rfl dX7_rankBySets_89 ?_
      refine tr_V.if_ne (tgt := 98) dX7_rankBySets_92 (by decide) ?_ ?_
      · refine tr_V.bipush (v := (-9 : Int32)) dX7_rankBySets_95 (by decide) ?_
        exact tr_V.iret dX7_rankBySets_97 rfl (fun h => h)
      · refine tr_V.iload_n (i := 3) dX7_rankBySets_98 rfl rfl ?_
        refine tr_V.iconst (v := (1 : Int32)) dX7_rankBySets_99 (by decide) ?_
        refine tr_V.aload_n (i := 0) dX7_rankBySets_100 rfl rfl ?_
        refine tr_V.getR (Nat.succ_pos _) fl_X7_62 shM_1 rfl dX7_rankBySets_101 ?_
        refine tr_V.iload dX7_rankBySets_104 rfl ?_
        refine tr_V.bd (fun a16 h17 => ?_)
        refine tr_V.iald h17 shM_19 dX7_rankBySets_106 ?_
        refine tr_V.ishl dX7_rankBySets_107 ?_
        refine tr_V.ior dX7_rankBySets_108 ?_
        refine tr_V.bd (fun x18 h19 => ?_)
        refine tr_V.nmI h19 ?_
        refine tr_V.istore_n (i := 3) dX7_rankBySets_109 rfl (Nat.le_of_ble_eq_true rfl) rfl ?_
        refine tr_V.aload_n (i := 0) dX7_rankBySets_110 rfl rfl ?_
        refine tr_V.getR (Nat.succ_pos _) fl_X7_62 shM_1 rfl dX7_rankBySets_111 ?_
        refine tr_V.iload dX7_rankBySets_114 rfl ?_
        refine tr_V.bd (fun a20 h21 => ?_)
        refine tr_V.iald h21 shM_19 dX7_rankBySets_116 ?_
        refine tr_V.istore (i := 4) dX7_rankBySets_117 (Nat.le_of_ble_eq_true rfl) rfl ?_
        refine tr_V.iinc (cst := (1 : Int32)) dX7_rankBySets_119 rfl (by decide) rfl ?_
        refine tr_V.goto (tgt := 11) dX7_rankBySets_122 (by decide) ?_
        exact tr_V.to (fun h => h) ⟨rfl, rfl, rfl, rfl, rfl, rfl, trivial⟩
  · refine tr_V.iload_n (i := 2) dX7_rankBySets_125 rfl rfl ?_
    exact tr_V.iret dX7_rankBySets_126 rfl (fun h => h)
abbrev xX7_rank : tr_X := (cX7_rank, 5, RX7, (some .int), 8, shM, 24)
theorem cw_X7_rank : Cond.code yX7_rank cX7_rank 5 (some .int) ∈ tr_tbl := tr_in 1592 (by decide +kernel) rfl
theorem yk_X7_rank : tr_yk yX7_rank (xX7_rank) 2 := ⟨cw_X7_rank, in_X7, ⟨by decide +kernel, by decide +kernel, by decide +kernel⟩, Nat.le_of_ble_eq_true rfl⟩
theorem iv_X7_rank : Cond.instanceMethod yX7_rank ∈ tr_tbl ∧ Cond.selects (yX7_rank).cls yX7_rank yX7_rank ∈ tr_tbl := ⟨tr_in 1590 (by decide +kernel) rfl, tr_in 1591 (by decide +kernel) rfl⟩
def mX7_rank_l31  (s8 : Int32 × tr_M) : Option ((Int32 × tr_M) ⊕ (tr_M)) :=
  if s8.1 < (s8.2.1 1 10) then (
    Option.bind (tr_rd 10 s8.2 12 s8.1) (fun a9 =>
    Option.bind (tr_wr 10 s8.2 19 s8.1 a9) (fun M11 =>
    some (.inl ((s8.1 + (1 : Int32)), M11))
    )
    )
  ) else (
    some (.inr s8.2)
  )
def mX7_rank (p1 : Int32) (p2 : Int32) (M : tr_M) : Option (Int32 × tr_M) :=
  Option.bind (mX7_isMeasure p1) (fun c1 =>
  if c1 = 0 then (
    some ((-1 : Int32), M)
  ) else (
    Option.bind (mX7_isRow p2) (fun c3 =>
    if c3 = 0 then (
      some ((-1 : Int32), M)
    ) else (
      Option.bind (mX7_needOrder p2 M) (fun c5 =>
      if c5.1 < 0 then (
        some (c5.1, c5.2)
      ) else (
        Option.bind (show Option (tr_M) from
          tr_loop (mX7_rank_l31) ((0 : Int32), c5.2)
        ) (fun (v7 : tr_M) =>
          Option.bind (mX7_needLeast p1 v7) (fun c13 =>
          if c13.1 < 0 then (
            some (c13.1, c13.2)
          ) else (
            if p1 = (4 : Int32) then (
              Option.bind (mX7_rankReach c13.2) (fun c15 =>
              some (c15.1, c15.2)
              )
            ) else (
              Option.bind (mX7_rankBySets p1 c13.2) (fun c17 =>
              some (c17, c13.2)
              )
            )
          )
          )
        )
      )
      )
    )
    )
  )
  )
set_option maxRecDepth 100000 in
set_option maxHeartbeats 4000000 in
theorem C_X7_rank (p1 : Int32) (p2 : Int32) (M : tr_M) (r : Int32 × tr_M) (h : mX7_rank p1 p2 M = some r) : tr_I yX7_rank (xX7_rank) [.ref 1, .int p1, .int p2] M (some (.int r.1)) r.2 := by
  refine tr_I.of (Z := fun q : Int32 × tr_M => (some (.int r.1) : Option Value) = some (.int q.1) ∧ r.2 = q.2) pn_X7 rfl gdM (Nat.le_of_ble_eq_true rfl) (fun Wt => ?_) h ⟨rfl, rfl⟩
  unfold mX7_rank
  refine tr_V.iload_n (i := 1) dX7_rank_0 rfl rfl ?_
  refine tr_V.bd (fun c1 h2 => ?_)
  refine tr_V.callS (C_X7_isMeasure p1 M _ h2) yk_X7_isMeasure sc_X7_isMeasure ml_X7_211 ⟨rfl, Nat.le_of_ble_eq_true rfl⟩ rfl (Nat.le_of_ble_eq_true rfl) rfl dX7_rank_1 ?_
  refine tr_V.if_eq (tgt := 14) dX7_rank_4 (by decide) ?_ ?_
  · refine tr_V.iconst (v := (-1 : Int32)) dX7_rank_14 (by decide) ?_
    exact tr_V.iret dX7_rank_15 rfl (fun h => h)
  · refine tr_V.iload_n (i := 2) dX7_rank_7 rfl rfl ?_
    refine tr_V.bd (fun c3 h4 => ?_)
    refine tr_V.callS (C_X7_isRow p2 M _ h4) yk_X7_isRow sc_X7_isRow ml_X7_102 ⟨rfl, Nat.le_of_ble_eq_true rfl⟩ rfl (Nat.le_of_ble_eq_true rfl) rfl dX7_rank_8 ?_
    refine tr_V.if_ne (tgt := 16) dX7_rank_11 (by decide) ?_ ?_
    · refine tr_V.iconst (v := (-1 : Int32)) dX7_rank_14 (by decide) ?_
      exact tr_V.iret dX7_rank_15 rfl (fun h => h)
    · refine tr_V.aload_n (i := 0) dX7_rank_16 rfl rfl ?_
      refine tr_V.iload_n (i := 2) dX7_rank_17 rfl rfl ?_
      refine tr_V.bd (fun c5 h6 => ?_)
      refine tr_V.callV (C_X7_needOrder p2 M _ h6) yk_X7_needOrder iv_X7_needOrder ml_X7_214 shM_1 rfl ⟨rfl, Nat.le_of_ble_eq_true rfl⟩ rfl (Nat.le_of_ble_eq_true rfl) rfl dX7_rank_18 ?_
      refine tr_V.istore_n (i := 3) dX7_rank_21 rfl (Nat.le_of_ble_eq_true rfl) rfl ?_
      refine tr_V.iload_n (i := 3) dX7_rank_22 rfl rfl ?_
      refine tr_V.if_ge (tgt := 28) dX7_rank_23 (by decide) ?_ ?_
      · refine tr_V.iload_n (i := 3) dX7_rank_26 rfl rfl ?_
        exact tr_V.iret dX7_rank_27 rfl (fun h => h)
      · refine tr_V.iconst (v := (0 : Int32)) dX7_rank_28 (by decide) ?_
        refine tr_V.istore (i := 4) dX7_rank_29 (Nat.le_of_ble_eq_true rfl) rfl ?_
        refine tr_V.seq (τ := tr_M) (pc' := 60) (L := fun v7 => [(0, some (.ref 1)), (1, some (.int p1))]) (S := fun v7 => []) (Mf := fun v7 => v7) ?_ ?_
        · refine tr_V.loop (σ := Int32 × tr_M) (step := mX7_rank_l31) (L := fun s8 => [(0, some (.ref 1)), (1, some (.int p1)), (4, some (.int s8.1))]) (Mf := fun s8 => s8.2) ?_ ((0 : Int32), c5.2) ⟨rfl, rfl, rfl, trivial⟩
          intro s8
          refine tr_V.iload dX7_rank_31 rfl ?_
          refine tr_V.aload_n (i := 0) dX7_rank_33 rfl rfl ?_
          refine tr_V.getI fl_X7_157 shM_1 rfl dX7_rank_34 ?_
          refine tr_V.icmp_ge (tgt := 60) dX7_rank_37 (by decide) ?_ ?_
          · refine tr_V.aload_n (i := 0) dX7_rank_40 rfl rfl ?_
            refine tr_V.getR (Nat.succ_pos _) fl_X7_62 shM_1 rfl dX7_rank_41 ?_
            refine tr_V.iload dX7_rank_44 rfl ?_
            refine tr_V.aload_n (i := 0) dX7_rank_46 rfl rfl ?_
            refine tr_V.getR (Nat.succ_pos _) fl_X7_41 shM_1 rfl dX7_rank_47 ?_
            refine tr_V.iload dX7_rank_50 rfl ?_
            refine tr_V.bd (fun a9 h10 => ?_)
            refine tr_V.iald h10 shM_12 dX7_rank_52 ?_
            refine tr_V.bd (fun M11 h12 => ?_)
            refine tr_V.iast h12 shM_19 dX7_rank_53 ?_
            refine tr_V.iinc (cst := (1 : Int32)) dX7_rank_54 rfl (by decide) rfl ?_
            refine tr_V.goto (tgt := 31) dX7_rank_57 (by decide) ?_
            exact tr_V.to (fun h => h) ⟨rfl, rfl, rfl, trivial⟩
          · exact tr_V.to (fun h => h) ⟨rfl, rfl, trivial⟩
        · intro v7
          refine tr_V.aload_n (i := 0) dX7_rank_60 rfl rfl ?_
          refine tr_V.iload_n (i := 1) dX7_rank_61 rfl rfl ?_
          refine tr_V.bd (fun c13 h14 => ?_)
          refine tr_V.callV (C_X7_needLeast p1 v7 _ h14) yk_X7_needLeast iv_X7_needLeast ml_X7_299 shM_1 rfl ⟨rfl, Nat.le_of_ble_eq_true rfl⟩ rfl (Nat.le_of_ble_eq_true rfl) rfl dX7_rank_62 ?_
          refine tr_V.istore_n (i := 3) dX7_rank_65 rfl (Nat.le_of_ble_eq_true rfl) rfl ?_
          refine tr_V.iload_n (i := 3) dX7_rank_66 rfl rfl ?_
          refine tr_V.if_ge (tgt := 72) dX7_rank_67 (by decide) ?_ ?_
          · refine tr_V.iload_n (i := 3) dX7_rank_70 rfl rfl ?_
            exact tr_V.iret dX7_rank_71 rfl (fun h => h)
          · refine tr_V.iload_n (i := 1) dX7_rank_72 rfl rfl ?_
            refine tr_V.iconst (v := (4 : Int32)) dX7_rank_73 (by decide) ?_
            refine tr_V.icmp_ne (tgt := 84) dX7_rank_74 (by decide) ?_ ?_
            · refine tr_V.aload_n (i := 0) dX7_rank_77 rfl rfl ?_
              refine tr_V.bd (fun c15 h16 => ?_)
              refine tr_V.callV (C_X7_rankReach c13.2 _ h16) yk_X7_rankReach iv_X7_rankReach ml_X7_311 shM_1 rfl ⟨rfl, Nat.le_of_ble_eq_true rfl⟩ rfl (Nat.le_of_ble_eq_true rfl) rfl dX7_rank_78 ?_
              refine tr_V.goto (tgt := 89) dX7_rank_81 (by decide) ?_
              exact tr_V.iret dX7_rank_89 rfl (fun h => h)
            · refine tr_V.aload_n (i := 0) dX7_rank_84 rfl rfl ?_
              refine tr_V.iload_n (i := 1) dX7_rank_85 rfl rfl ?_
              refine tr_V.bd (fun c17 h18 => ?_)
              refine tr_V.callV (C_X7_rankBySets p1 c13.2 _ h18) yk_X7_rankBySets iv_X7_rankBySets ml_X7_314 shM_1 rfl ⟨rfl, Nat.le_of_ble_eq_true rfl⟩ rfl (Nat.le_of_ble_eq_true rfl) rfl dX7_rank_86 ?_
              exact tr_V.iret dX7_rank_89 rfl (fun h => h)
abbrev xX7_order : tr_X := (cX7_order, 5, RX7, (some .int), 8, shM, 24)
theorem cw_X7_order : Cond.code yX7_order cX7_order 5 (some .int) ∈ tr_tbl := tr_in 1608 (by decide +kernel) rfl
theorem yk_X7_order : tr_yk yX7_order (xX7_order) 3 := ⟨cw_X7_order, in_X7, ⟨by decide +kernel, by decide +kernel, by decide +kernel⟩, Nat.le_of_ble_eq_true rfl⟩
theorem iv_X7_order : Cond.instanceMethod yX7_order ∈ tr_tbl ∧ Cond.selects (yX7_order).cls yX7_order yX7_order ∈ tr_tbl := ⟨tr_in 1606 (by decide +kernel) rfl, tr_in 1607 (by decide +kernel) rfl⟩
def mX7_order (p1 : Int32) (p2 : Int32) (p3 : Int32) (M : tr_M) : Option (Int32 × tr_M) :=
  Option.bind (mX7_isMeasure p1) (fun c1 =>
  if c1 = 0 then (
    some ((-1 : Int32), M)
  ) else (
    if p2 < 0 then (
      some ((-1 : Int32), M)
    ) else (
      Option.bind (mX7_isRow p3) (fun c3 =>
      if c3 = 0 then (
        some ((-1 : Int32), M)
      ) else (
        Option.bind (mX7_needLeast p1 M) (fun c5 =>
        if c5.1 < 0 then (
          some (c5.1, c5.2)
        ) else (
          if p2 < (c5.2.1 1 30) then (
            Option.bind (mX7_layLeast p1 p2 c5.2) (fun c7 =>
            Option.bind (mX7_lineToRow p3 c7) (fun c9 =>
            some ((1 : Int32), c9)
            )
            )
          ) else (
            Option.bind (mX7_meets (2 : Int32) c5.2) (fun c11 =>
            some (c11.1, c11.2)
            )
          )
        )
        )
      )
      )
    )
  )
  )
set_option maxRecDepth 100000 in
set_option maxHeartbeats 4000000 in
theorem C_X7_order (p1 : Int32) (p2 : Int32) (p3 : Int32) (M : tr_M) (r : Int32 × tr_M) (h : mX7_order p1 p2 p3 M = some r) : tr_I yX7_order (xX7_order) [.ref 1, .int p1, .int p2, .int p3] M (some (.int r.1)) r.2 := by
  refine tr_I.of (Z := fun q : Int32 × tr_M => (some (.int r.1) : Option Value) = some (.int q.1) ∧ r.2 = q.2) pn_X7 rfl gdM (Nat.le_of_ble_eq_true rfl) (fun Wt => ?_) h ⟨rfl, rfl⟩
  unfold mX7_order
  refine tr_V.iload_n (i := 1) dX7_order_0 rfl rfl ?_
  refine tr_V.bd (fun c1 h2 => ?_)
  refine tr_V.callS (C_X7_isMeasure p1 M _ h2) yk_X7_isMeasure sc_X7_isMeasure ml_X7_211 ⟨rfl, Nat.le_of_ble_eq_true rfl⟩ rfl (Nat.le_of_ble_eq_true rfl) rfl dX7_order_1 ?_
  refine tr_V.if_eq (tgt := 18) dX7_order_4 (by decide) ?_ ?_
  · refine tr_V.iconst (v := (-1 : Int32)) dX7_order_18 (by decide) ?_
    exact tr_V.iret dX7_order_19 rfl (fun h => h)
  · refine tr_V.iload_n (i := 2) dX7_order_7 rfl rfl ?_
    refine tr_V.if_lt (tgt := 18) dX7_order_8 (by decide) ?_ ?_
    · refine tr_V.iconst (v := (-1 : Int32)) dX7_order_18 (by decide) ?_
      exact tr_V.iret dX7_order_19 rfl (fun h => h)
    · refine tr_V.iload_n (i := 3) dX7_order_11 rfl rfl ?_
      refine tr_V.bd (fun c3 h4 => ?_)
      refine tr_V.callS (C_X7_isRow p3 M _ h4) yk_X7_isRow sc_X7_isRow ml_X7_102 ⟨rfl, Nat.le_of_ble_eq_true rfl⟩ rfl (Nat.le_of_ble_eq_true rfl) rfl dX7_order_12 ?_
      refine tr_V.if_ne (tgt := 20) dX7_order_15 (by decide) ?_ ?_
      · refine tr_V.iconst (v := (-1 : Int32)) dX7_order_18 (by decide) ?_
        exact tr_V.iret dX7_order_19 rfl (fun h => h)
      · refine tr_V.aload_n (i := 0) dX7_order_20 rfl rfl ?_
        refine tr_V.iload_n (i := 1) dX7_order_21 rfl rfl ?_
        refine tr_V.bd (fun c5 h6 => ?_)
        refine tr_V.callV (C_X7_needLeast p1 M _ h6) yk_X7_needLeast iv_X7_needLeast ml_X7_299 shM_1 rfl ⟨rfl, Nat.le_of_ble_eq_true rfl⟩ rfl (Nat.le_of_ble_eq_true rfl) rfl dX7_order_22 ?_
        refine tr_V.istore (i := 4) dX7_order_25 (Nat.le_of_ble_eq_true rfl) rfl ?_
        refine tr_V.iload dX7_order_27 rfl ?_
        refine tr_V.if_ge (tgt := 35) dX7_order_29 (by decide) ?_ ?_
        · refine tr_V.iload dX7_order_32 rfl ?_
          exact tr_V.iret dX7_order_34 rfl (fun h => h)
        · refine tr_V.iload_n (i := 2) dX7_order_35 rfl rfl ?_
          refine tr_V.aload_n (i := 0) dX7_order_36 rfl rfl ?_
          refine tr_V.getI fl_X7_260 shM_1 rfl dX7_order_37 ?_
          refine tr_V.icmp_lt (tgt := 49) dX7_order_40 (by decide) ?_ ?_
          · refine tr_V.aload_n (i := 0) dX7_order_49 rfl rfl ?_
            refine tr_V.iload_n (i := 1) dX7_order_50 rfl rfl ?_
            refine tr_V.iload_n (i := 2) dX7_order_51 rfl rfl ?_
            refine tr_V.bd (fun c7 h8 => ?_)
            refine tr_V.callV (C_X7_layLeast p1 p2 c5.2 _ h8) yk_X7_layLeast iv_X7_layLeast ml_X7_305 shM_1 rfl ⟨rfl, Nat.le_of_ble_eq_true rfl⟩ rfl (Nat.le_of_ble_eq_true rfl) rfl dX7_order_52 ?_
            refine tr_V.aload_n (i := 0) dX7_order_55 rfl rfl ?_
            refine tr_V.iload_n (i := 3) dX7_order_56 rfl rfl ?_
            refine tr_V.bd (fun c9 h10 => ?_)
            refine tr_V.callV (C_X7_lineToRow p3 c7 _ h10) yk_X7_lineToRow iv_X7_lineToRow ml_X7_308 shM_1 rfl ⟨rfl, Nat.le_of_ble_eq_true rfl⟩ rfl (Nat.le_of_ble_eq_true rfl) rfl dX7_order_57 ?_
            refine tr_V.iconst (v := (1 : Int32)) dX7_order_60 (by decide) ?_
            exact tr_V.iret dX7_order_61 rfl (fun h => h)
          · refine tr_V.aload_n (i := 0) dX7_order_43 rfl rfl ?_
            refine tr_V.iconst (v := (2 : Int32)) dX7_order_44 (by decide) ?_
            refine tr_V.bd (fun c11 h12 => ?_)
            refine tr_V.callV (C_X7_meets (2 : Int32) c5.2 _ h12) yk_X7_meets iv_X7_meets ml_X7_106 shM_1 rfl ⟨rfl, Nat.le_of_ble_eq_true rfl⟩ rfl (Nat.le_of_ble_eq_true rfl) rfl dX7_order_45 ?_
            exact tr_V.iret dX7_order_48 rfl (fun h => h)
abbrev xX7_allowedMany : tr_X := (cX7_allowedMany, 5, RX7, (some .int), 4, shM, 24)
theorem cw_X7_allowedMany : Cond.code yX7_allowedMany cX7_allowedMany 5 (some .int) ∈ tr_tbl := tr_in 1616 (by decide +kernel) rfl
theorem yk_X7_allowedMany : tr_yk yX7_allowedMany (xX7_allowedMany) 0 := ⟨cw_X7_allowedMany, in_X7, ⟨by decide +kernel, by decide +kernel, by decide +kernel⟩, Nat.le_of_ble_eq_true rfl⟩
theorem iv_X7_allowedMany : Cond.instanceMethod yX7_allowedMany ∈ tr_tbl ∧ Cond.selects (yX7_allowedMany).cls yX7_allowedMany yX7_allowedMany ∈ tr_tbl := ⟨tr_in 1615 (by decide +kernel) rfl, tr_in 107 (by decide +kernel) rfl⟩
def mX7_allowedMany_l68 (s4 : Int32 × tr_M) (s5 : Int32 × tr_M) (s17 : Int32 × Int32) : Option ((Int32 × Int32) ⊕ (Int32)) :=
  if s17.2 < (s5.2.1 1 10) then (
    Option.bind (show Option (Int32) from
      if s4.1 = 0 then (
        some (-9 : Int32)
      ) else (
        some s5.1
      )
    ) (fun (v18 : Int32) =>
      Option.bind (mX7_mayCome s4.1 v18 s17.2 s5.2) (fun c19 =>
      if c19 = 0 then (
        some (.inl ((s17.1 + (0 : Int32)), (s17.2 + (1 : Int32))))
      ) else (
        Option.bind (tr_rd 10240 s5.2 17 (mX7_spot (s4.1 ||| ((1 : Int32) <<< (s17.2 &&& 31))) s17.2)) (fun a23 =>
        some (.inl ((s17.1 + a23), (s17.2 + (1 : Int32))))
        )
      )
      )
    )
  ) else (
    some (.inr s17.1)
  )
def mX7_allowedMany_l11 (s4 : Int32 × tr_M) (s5 : Int32 × tr_M) : Option ((Int32 × tr_M) ⊕ ((Int32 × tr_M) ⊕ (tr_M))) :=
  if s5.1 < (s5.2.1 1 10) then (
    Option.bind (show Option (Int32) from
      if s4.1 = (mX7_full s5.2) then (
        if (mX7_has s4.1 s5.1) = 0 then (
          some (0 : Int32)
        ) else (
          some (1 : Int32)
        )
      ) else (
        some (0 : Int32)
      )
    ) (fun (v8 : Int32) =>
      Option.bind (show Option (Int32) from
        if s4.1 < (mX7_full s5.2) then (
          Option.bind (show Option ((Unit) ⊕ (Int32)) from
            if (mX7_has s4.1 s5.1) = 0 then (
              if s4.1 = 0 then (
                if s5.1 = 0 then (
                  some (.inl ())
                ) else (
                  some (.inr v8)
                )
              ) else (
                some (.inr v8)
              )
            ) else (
              some (.inl ())
            )
          ) (tr_el (fun (v16 : Unit) =>
            tr_loop (mX7_allowedMany_l68 s4 s5) (v8, (0 : Int32))
          ))
        ) else (
          some v8
        )
      ) (fun (v13 : Int32) =>
        Option.bind (tr_wr 10240 s5.2 17 (mX7_spot s4.1 s5.1) v13) (fun M27 =>
        some (.inl ((s5.1 + (1 : Int32)), M27))
        )
      )
    )
  ) else (
    Option.bind (some (s4.1 + (-1 : Int32))) (fun x29 =>
    some (.inr (.inl (x29, s5.2)))
    )
  )
def mX7_allowedMany_l5  (s4 : Int32 × tr_M) : Option ((Int32 × tr_M) ⊕ (tr_M)) :=
  if s4.1 < 0 then (
    some (.inr s4.2)
  ) else (
    tr_loop (mX7_allowedMany_l11 s4) ((0 : Int32), s4.2)
  )
def mX7_allowedMany  (M : tr_M) : Option (Int32 × tr_M) :=
  Option.bind (show Option (tr_M) from
    tr_loop (mX7_allowedMany_l5) ((mX7_full M), M)
  ) (fun (v3 : tr_M) =>
    if (v3.1 1 10) = 0 then (
      some ((1 : Int32), v3)
    ) else (
      Option.bind (tr_rd 10240 v3 17 (mX7_spot (0 : Int32) (0 : Int32))) (fun a33 =>
      some (a33, v3)
      )
    )
  )
set_option maxRecDepth 100000 in
set_option maxHeartbeats 4000000 in
theorem C_X7_allowedMany  (M : tr_M) (r : Int32 × tr_M) (h : mX7_allowedMany M = some r) : tr_I yX7_allowedMany (xX7_allowedMany) [.ref 1] M (some (.int r.1)) r.2 := by
  refine tr_I.of (Z := fun q : Int32 × tr_M => (some (.int r.1) : Option Value) = some (.int q.1) ∧ r.2 = q.2) pn_X7 rfl gdM (Nat.le_of_ble_eq_true rfl) (fun Wt => ?_) h ⟨rfl, rfl⟩
  unfold mX7_allowedMany
  refine tr_V.aload_n (i := 0) dX7_allowedMany_0 rfl rfl ?_
  refine tr_V.callV (C_X7_full M) yk_X7_full iv_X7_full ml_X7_236 shM_1 rfl ⟨rfl, Nat.le_of_ble_eq_true rfl⟩ rfl (Nat.le_of_ble_eq_true rfl) rfl dX7_allowedMany_1 ?_
  refine tr_V.istore_n (i := 1) dX7_allowedMany_4 rfl (Nat.le_of_ble_eq_true rfl) rfl ?_
  refine tr_V.seq (τ := tr_M) (pc' := 149) (L := fun v3 => [(0, some (.ref 1))]) (S := fun v3 => []) (Mf := fun v3 => v3) ?_ ?_
  · refine tr_V.loop (σ := Int32 × tr_M) (step := mX7_allowedMany_l5) (L := fun s4 => [(0, some (.ref 1)), (1, some (.int s4.1))]) (Mf := fun s4 => s4.2) ?_ ((mX7_full M), M) ⟨rfl, rfl, trivial⟩
    intro s4
    refine tr_V.iload_n (i := 1) dX7_allowedMany_5 rfl rfl ?_
    refine tr_V.if_lt (tgt := 149) dX7_allowedMany_6 (by decide) ?_ ?_
    · exact tr_V.to (fun h => h) ⟨rfl, trivial⟩
    · refine tr_V.iconst (v := (0 : Int32)) dX7_allowedMany_9 (by decide) ?_
      refine tr_V.istore_n (i := 2) dX7_allowedMany_10 rfl (Nat.le_of_ble_eq_true rfl) rfl ?_
      refine tr_V.loop (σ := Int32 × tr_M) (step := mX7_allowedMany_l11 s4) (L := fun s5 => [(0, some (.ref 1)), (1, some (.int s4.1)), (2, some (.int s5.1))]) (Mf := fun s5 => s5.2) ?_ ((0 : Int32), s4.2) ⟨rfl, rfl, rfl, trivial⟩
      intro s5
      refine tr_V.iload_n (i := 2) dX7_allowedMany_11 rfl rfl ?_
      refine tr_V.aload_n (i := 0) dX7_allowedMany_12 rfl rfl ?_
      refine tr_V.getI fl_X7_157 shM_1 rfl dX7_allowedMany_13 ?_
      refine tr_V.icmp_ge (tgt := 143) dX7_allowedMany_16 (by decide) ?_ ?_
      · refine tr_V.iload_n (i := 1) dX7_allowedMany_19 rfl rfl ?_
        refine tr_V.aload_n (i := 0) dX7_allowedMany_20 rfl rfl ?_
        refine tr_V.callV (C_X7_full s5.2) yk_X7_full iv_X7_full ml_X7_236 shM_1 rfl ⟨rfl, Nat.le_of_ble_eq_true rfl⟩ rfl (Nat.le_of_ble_eq_true rfl) rfl dX7_allowedMany_21 ?_
        refine tr_V.seq (τ := Int32) (pc' := 40) (L := fun v8 => [(0, some (.ref 1)), (1, some (.int s4.1)), (2, some (.int s5.1))]) (S := fun v8 => [.int v8]) (Mf := fun v8 => s5.2) ?_ ?_
        · refine tr_V.icmp_ne (tgt := 39) dX7_allowedMany_24 (by decide) ?_ ?_
          · refine tr_V.iload_n (i := 1) dX7_allowedMany_27 rfl rfl ?_
            refine tr_V.iload_n (i := 2) dX7_allowedMany_28 rfl rfl ?_
            refine tr_V.callS (C_X7_has s4.1 s5.1 s5.2) yk_X7_has sc_X7_has ml_X7_186 ⟨rfl, Nat.le_of_ble_eq_true rfl⟩ rfl (Nat.le_of_ble_eq_true rfl) rfl dX7_allowedMany_29 ?_
            refine tr_V.if_eq (tgt := 39) dX7_allowedMany_32 (by decide) ?_ ?_
            · refine tr_V.iconst (v := (0 : Int32)) dX7_allowedMany_39 (by decide) ?_
              exact tr_V.to (fun h => h) ⟨rfl, rfl, rfl, trivial⟩
            · refine tr_V.iconst (v := (1 : Int32)) dX7_allowedMany_35 (by decide) ?_
              refine tr_V.goto (tgt := 40) dX7_allowedMany_36 (by decide) ?_
              exact tr_V.to (fun h => h) ⟨rfl, rfl, rfl, trivial⟩
          · refine tr_V.iconst (v := (0 : Int32)) dX7_allowedMany_39 (by decide) ?_
            exact tr_V.to (fun h => h) ⟨rfl, rfl, rfl, trivial⟩
        · intro v8
          refine tr_V.istore_n (i := 3) dX7_allowedMany_40 rfl (Nat.le_of_ble_eq_true rfl) rfl ?_
          refine tr_V.iload_n (i := 1) dX7_allowedMany_41 rfl rfl ?_
          refine tr_V.aload_n (i := 0) dX7_allowedMany_42 rfl rfl ?_
          refine tr_V.callV (C_X7_full s5.2) yk_X7_full iv_X7_full ml_X7_236 shM_1 rfl ⟨rfl, Nat.le_of_ble_eq_true rfl⟩ rfl (Nat.le_of_ble_eq_true rfl) rfl dX7_allowedMany_43 ?_
          refine tr_V.seq (τ := Int32) (pc' := 126) (L := fun v13 => [(0, some (.ref 1)), (1, some (.int s4.1)), (2, some (.int s5.1)), (3, some (.int v13))]) (S := fun v13 => []) (Mf := fun v13 => s5.2) ?_ ?_
          · refine tr_V.icmp_ge (tgt := 126) dX7_allowedMany_46 (by decide) ?_ ?_
            · refine tr_V.iload_n (i := 1) dX7_allowedMany_49 rfl rfl ?_
              refine tr_V.iload_n (i := 2) dX7_allowedMany_50 rfl rfl ?_
              refine tr_V.callS (C_X7_has s4.1 s5.1 s5.2) yk_X7_has sc_X7_has ml_X7_186 ⟨rfl, Nat.le_of_ble_eq_true rfl⟩ rfl (Nat.le_of_ble_eq_true rfl) rfl dX7_allowedMany_51 ?_
              refine tr_V.seqE (τ := Unit) (pc' := 65) (L := fun v16 => [(0, some (.ref 1)), (1, some (.int s4.1)), (2, some (.int s5.1)), (3, some (.int v8))]) (S := fun v16 => []) (Mf := fun v16 => s5.2) ?_ ?_
              · refine tr_V.if_ne (tgt := 65) dX7_allowedMany_54 (by decide) ?_ ?_
                · refine tr_V.iload_n (i := 1) dX7_allowedMany_57 rfl rfl ?_
                  refine tr_V.if_ne (tgt := 126) dX7_allowedMany_58 (by decide) ?_ ?_
                  · refine tr_V.iload_n (i := 2) dX7_allowedMany_61 rfl rfl ?_
                    refine tr_V.if_ne (tgt := 126) dX7_allowedMany_62 (by decide) ?_ ?_
                    · exact tr_V.to (fun h => h) ⟨rfl, rfl, rfl, rfl, trivial⟩
                    · exact tr_V.to (fun h => h) ⟨rfl, rfl, rfl, rfl, trivial⟩
                  · exact tr_V.to (fun h => h) ⟨rfl, rfl, rfl, rfl, trivial⟩
                · exact tr_V.to (fun h => h) ⟨rfl, rfl, rfl, rfl, trivial⟩
              · intro v16
                refine tr_V.iconst (v := (0 : Int32)) dX7_allowedMany_65 (by decide) ?_
                refine tr_V.istore (i := 4) dX7_allowedMany_66 (Nat.le_of_ble_eq_true rfl) rfl ?_
                refine tr_V.loop (σ := Int32 × Int32) (step := mX7_allowedMany_l68 s4 s5) (L := fun s17 => [(0, some (.ref 1)), (1, some (.int s4.1)), (2, some (.int s5.1)), (3, some (.int s17.1)), (4, some (.int s17.2))]) (Mf := fun s17 => s5.2) ?_ (v8, (0 : Int32)) ⟨rfl, rfl, rfl, rfl, rfl, trivial⟩
                intro s17
                refine tr_V.iload dX7_allowedMany_68 rfl ?_
                refine tr_V.aload_n (i := 0) dX7_allowedMany_70 rfl rfl ?_
                refine tr_V.getI fl_X7_157 shM_1 rfl dX7_allowedMany_71 ?_
                refine tr_V.icmp_ge (tgt := 126) dX7_allowedMany_74 (by decide) ?_ ?_
                · refine tr_V.iload_n (i := 3) dX7_allowedMany_77 rfl rfl ?_
                  refine tr_V.aload_n (i := 0) dX7_allowedMany_78 rfl rfl ?_
                  refine tr_V.iload_n (i := 1) dX7_allowedMany_79 rfl rfl ?_
                  refine tr_V.iload_n (i := 1) dX7_allowedMany_80 rfl rfl ?_
                  refine tr_V.seq (τ := Int32) (pc' := 90) (L := fun v18 => [(0, some (.ref 1)), (1, some (.int s4.1)), (2, some (.int s5.1)), (4, some (.int s17.2))]) (S := fun v18 => [.int v18, .int s4.1, .ref 1, .int s17.1]) (Mf := fun v18 => s5.2) ?_ ?_
                  · refine tr_V.if_ne (tgt := 89) dX7_allowedMany_81 (by decide) ?_ ?_
                    · refine tr_V.bipush (v := (-9 : Int32)) dX7_allowedMany_84 (by decide) ?_
                      refine tr_V.goto (tgt := 90) dX7_allowedMany_86 (by decide) ?_
                      exact tr_V.to (fun h => h) ⟨rfl, rfl, rfl, rfl, trivial⟩
                    · refine tr_V.iload_n (i := 2) dX7_allowedMany_89 rfl rfl ?_
                      exact tr_V.to (fun h => h) ⟨rfl, rfl, rfl, rfl, trivial⟩
                  · intro v18
                    refine tr_V.iload dX7_allowedMany_90 rfl ?_
                    refine tr_V.bd (fun c19 h20 => ?_)
                    refine tr_V.callV (C_X7_mayCome s4.1 v18 s17.2 s5.2 _ h20) yk_X7_mayCome iv_X7_mayCome ml_X7_254 shM_1 rfl ⟨rfl, Nat.le_of_ble_eq_true rfl⟩ rfl (Nat.le_of_ble_eq_true rfl) rfl dX7_allowedMany_92 ?_
                    refine tr_V.if_eq (tgt := 117) dX7_allowedMany_95 (by decide) ?_ ?_
                    · refine tr_V.iconst (v := (0 : Int32)) dX7_allowedMany_117 (by decide) ?_
                      refine tr_V.iadd dX7_allowedMany_118 ?_
                      refine tr_V.istore_n (i := 3) dX7_allowedMany_119 rfl (Nat.le_of_ble_eq_true rfl) rfl ?_
                      refine tr_V.iinc (cst := (1 : Int32)) dX7_allowedMany_120 rfl (by decide) rfl ?_
                      refine tr_V.goto (tgt := 68) dX7_allowedMany_123 (by decide) ?_
                      exact tr_V.to (fun h => h) ⟨rfl, rfl, rfl, rfl, rfl, trivial⟩
                    · refine tr_V.aload_n (i := 0) dX7_allowedMany_98 rfl rfl ?_
                      refine tr_V.getR (Nat.succ_pos _) fl_X7_56 shM_1 rfl dX7_allowedMany_99 ?_
                      refine tr_V.iload_n (i := 1) dX7_allowedMany_102 rfl rfl ?_
                      refine tr_V.iconst (v := (1 : Int32)) dX7_allowedMany_103 (by decide) ?_
                      refine tr_V.iload dX7_allowedMany_104 rfl ?_
                      refine tr_V.ishl dX7_allowedMany_106 ?_
                      refine tr_V.ior dX7_allowedMany_107 ?_
                      refine tr_V.iload dX7_allowedMany_108 rfl ?_
                      refine tr_V.callS (C_X7_spot (s4.1 ||| ((1 : Int32) <<< (s17.2 &&& 31))) s17.2 s5.2) yk_X7_spot sc_X7_spot ml_X7_243 ⟨rfl, Nat.le_of_ble_eq_true rfl⟩ rfl (Nat.le_of_ble_eq_true rfl) rfl dX7_allowedMany_110 ?_
                      refine tr_V.bd (fun a23 h24 => ?_)
                      refine tr_V.iald h24 shM_17 dX7_allowedMany_113 ?_
                      refine tr_V.goto (tgt := 118) dX7_allowedMany_114 (by decide) ?_
                      refine tr_V.iadd dX7_allowedMany_118 ?_
                      refine tr_V.istore_n (i := 3) dX7_allowedMany_119 rfl (Nat.le_of_ble_eq_true rfl) rfl ?_
                      refine tr_V.iinc (cst := (1 : Int32)) dX7_allowedMany_120 rfl (by decide) rfl ?_
                      refine tr_V.goto (tgt := 68) dX7_allowedMany_123 (by decide) ?_
                      exact tr_V.to (fun h => h) ⟨rfl, rfl, rfl, rfl, rfl, trivial⟩
                · exact tr_V.to (fun h => h) ⟨rfl, rfl, rfl, rfl, trivial⟩
            · exact tr_V.to (fun h => h) ⟨rfl, rfl, rfl, rfl, trivial⟩
          · intro v13
            refine tr_V.aload_n (i := 0) dX7_allowedMany_126 rfl rfl ?_
            refine tr_V.getR (Nat.succ_pos _) fl_X7_56 shM_1 rfl dX7_allowedMany_127 ?_
            refine tr_V.iload_n (i := 1) dX7_allowedMany_130 rfl rfl ?_
            refine tr_V.iload_n (i := 2) dX7_allowedMany_131 rfl rfl ?_
            refine tr_V.callS (C_X7_spot s4.1 s5.1 s5.2) yk_X7_spot sc_X7_spot ml_X7_243 ⟨rfl, Nat.le_of_ble_eq_true rfl⟩ rfl (Nat.le_of_ble_eq_true rfl) rfl dX7_allowedMany_132 ?_
            refine tr_V.iload_n (i := 3) dX7_allowedMany_135 rfl rfl ?_
            refine tr_V.bd (fun M27 h28 => ?_)
            refine tr_V.iast h28 shM_17 dX7_allowedMany_136 ?_
            refine tr_V.iinc (cst := (1 : Int32)) dX7_allowedMany_137 rfl (by decide) rfl ?_
            refine tr_V.goto (tgt := 11) dX7_allowedMany_140 (by decide) ?_
            exact tr_V.to (fun h => h) ⟨rfl, rfl, rfl, trivial⟩
      · refine tr_V.bd (fun x29 h30 => ?_)
        refine tr_V.iincN (cst := (-1 : Int32)) dX7_allowedMany_143 rfl (by decide) rfl h30 ?_
        refine tr_V.goto (tgt := 5) dX7_allowedMany_146 (by decide) ?_
        exact tr_V.to (fun h => h) ⟨rfl, rfl, trivial⟩
  · intro v3
    refine tr_V.aload_n (i := 0) dX7_allowedMany_149 rfl rfl ?_
    refine tr_V.getI fl_X7_157 shM_1 rfl dX7_allowedMany_150 ?_
    refine tr_V.if_ne (tgt := 160) dX7_allowedMany_153 (by decide) ?_ ?_
    · refine tr_V.iconst (v := (1 : Int32)) dX7_allowedMany_156 (by decide) ?_
      refine tr_V.goto (tgt := 170) dX7_allowedMany_157 (by decide) ?_
      exact tr_V.iret dX7_allowedMany_170 rfl (fun h => h)
    · refine tr_V.aload_n (i := 0) dX7_allowedMany_160 rfl rfl ?_
      refine tr_V.getR (Nat.succ_pos _) fl_X7_56 shM_1 rfl dX7_allowedMany_161 ?_
      refine tr_V.iconst (v := (0 : Int32)) dX7_allowedMany_164 (by decide) ?_
      refine tr_V.iconst (v := (0 : Int32)) dX7_allowedMany_165 (by decide) ?_
      refine tr_V.callS (C_X7_spot (0 : Int32) (0 : Int32) v3) yk_X7_spot sc_X7_spot ml_X7_243 ⟨rfl, Nat.le_of_ble_eq_true rfl⟩ rfl (Nat.le_of_ble_eq_true rfl) rfl dX7_allowedMany_166 ?_
      refine tr_V.bd (fun a33 h34 => ?_)
      refine tr_V.iald h34 shM_17 dX7_allowedMany_169 ?_
      exact tr_V.iret dX7_allowedMany_170 rfl (fun h => h)
abbrev xX7_all : tr_X := (cX7_all, 1, RX7, (some .int), 5, shM, 24)
theorem cw_X7_all : Cond.code yX7_all cX7_all 1 (some .int) ∈ tr_tbl := tr_in 1612 (by decide +kernel) rfl
theorem yk_X7_all : tr_yk yX7_all (xX7_all) 0 := ⟨cw_X7_all, in_X7, ⟨by decide +kernel, by decide +kernel, by decide +kernel⟩, Nat.le_of_ble_eq_true rfl⟩
theorem iv_X7_all : Cond.instanceMethod yX7_all ∈ tr_tbl ∧ Cond.selects (yX7_all).cls yX7_all yX7_all ∈ tr_tbl := ⟨tr_in 1610 (by decide +kernel) rfl, tr_in 1611 (by decide +kernel) rfl⟩
def mX7_all  (M : tr_M) : Option (Int32 × tr_M) :=
  Option.bind (mX7_allowedMany M) (fun c1 =>
  some (c1.1, c1.2)
  )
set_option maxRecDepth 100000 in
set_option maxHeartbeats 4000000 in
theorem C_X7_all  (M : tr_M) (r : Int32 × tr_M) (h : mX7_all M = some r) : tr_I yX7_all (xX7_all) [.ref 1] M (some (.int r.1)) r.2 := by
  refine tr_I.of (Z := fun q : Int32 × tr_M => (some (.int r.1) : Option Value) = some (.int q.1) ∧ r.2 = q.2) pn_X7 rfl gdM (Nat.le_of_ble_eq_true rfl) (fun Wt => ?_) h ⟨rfl, rfl⟩
  unfold mX7_all
  refine tr_V.aload_n (i := 0) dX7_all_0 rfl rfl ?_
  refine tr_V.bd (fun c1 h2 => ?_)
  refine tr_V.callV (C_X7_allowedMany M _ h2) yk_X7_allowedMany iv_X7_allowedMany ml_X7_320 shM_1 rfl ⟨rfl, Nat.le_of_ble_eq_true rfl⟩ rfl (Nat.le_of_ble_eq_true rfl) rfl dX7_all_1 ?_
  exact tr_V.iret dX7_all_4 rfl (fun h => h)
abbrev xX7_nearestOf : tr_X := (cX7_nearestOf, 6, RX7, (some .int), 2, shM, 24)
theorem cw_X7_nearestOf : Cond.code yX7_nearestOf cX7_nearestOf 6 (some .int) ∈ tr_tbl := tr_in 1624 (by decide +kernel) rfl
theorem yk_X7_nearestOf : tr_yk yX7_nearestOf (xX7_nearestOf) 1 := ⟨cw_X7_nearestOf, in_X7, ⟨by decide +kernel, by decide +kernel, by decide +kernel⟩, Nat.le_of_ble_eq_true rfl⟩
theorem iv_X7_nearestOf : Cond.instanceMethod yX7_nearestOf ∈ tr_tbl ∧ Cond.selects (yX7_nearestOf).cls yX7_nearestOf yX7_nearestOf ∈ tr_tbl := ⟨tr_in 1623 (by decide +kernel) rfl, tr_in 108 (by decide +kernel) rfl⟩
def mX7_nearestOf_l2 (p1 : Int32) (s2 : Int32 × tr_M) : Option ((Int32 × tr_M) ⊕ (tr_M)) :=
  if s2.1 < (s2.2.1 1 10) then (
    Option.bind (mX7_weight p1 s2.1 s2.2) (fun c3 =>
    Option.bind (tr_wr 10 s2.2 20 s2.1 c3) (fun M5 =>
    some (.inl ((s2.1 + (1 : Int32)), M5))
    )
    )
  ) else (
    some (.inr s2.2)
  )
def mX7_nearestOf_l46 (s7 : Int32 × Int32 × tr_M) (s9 : Int32 × Int32) : Option ((Int32 × Int32) ⊕ (Int32)) :=
  if s9.2 < (s7.2.2.1 1 10) then (
    Option.bind (tr_rd 10 s7.2.2 20 s9.2) (fun a10 =>
    Option.bind (tr_rd 10 s7.2.2 20 s9.1) (fun a12 =>
    if a12 < a10 then (
      some (.inl (s9.2, (s9.2 + (1 : Int32))))
    ) else (
      some (.inl (s9.1, (s9.2 + (1 : Int32))))
    )
    )
    )
  ) else (
    some (.inr s9.1)
  )
def mX7_nearestOf_l32  (s7 : Int32 × Int32 × tr_M) : Option ((Int32 × Int32 × tr_M) ⊕ (Int32 × tr_M)) :=
  if s7.2.1 < (s7.2.2.1 1 10) then (
    Option.bind (show Option (Int32) from
      tr_loop (mX7_nearestOf_l46 s7) ((0 : Int32), (1 : Int32))
    ) (fun (v8 : Int32) =>
      Option.bind (tr_rd 10 s7.2.2 20 v8) (fun a14 =>
      Option.bind (some (s7.1 + (a14 * ((s7.2.1 / (2 : Int32)) + (1 : Int32))))) (fun x16 =>
      Option.bind (tr_wr 10 s7.2.2 20 v8 (0 : Int32)) (fun M18 =>
      some (.inl (x16, (s7.2.1 + (1 : Int32)), M18))
      )
      )
      )
    )
  ) else (
    some (.inr (s7.1, s7.2.2))
  )
def mX7_nearestOf (p1 : Int32) (M : tr_M) : Option (Int32 × tr_M) :=
  Option.bind (show Option (tr_M) from
    tr_loop (mX7_nearestOf_l2 p1) ((0 : Int32), M)
  ) (fun (v1 : tr_M) =>
    tr_loop (mX7_nearestOf_l32) ((0 : Int32), (0 : Int32), v1)
  )
set_option maxRecDepth 100000 in
set_option maxHeartbeats 4000000 in
theorem C_X7_nearestOf (p1 : Int32) (M : tr_M) (r : Int32 × tr_M) (h : mX7_nearestOf p1 M = some r) : tr_I yX7_nearestOf (xX7_nearestOf) [.ref 1, .int p1] M (some (.int r.1)) r.2 := by
  refine tr_I.of (Z := fun q : Int32 × tr_M => (some (.int r.1) : Option Value) = some (.int q.1) ∧ r.2 = q.2) pn_X7 rfl gdM (Nat.le_of_ble_eq_true rfl) (fun Wt => ?_) h ⟨rfl, rfl⟩
  unfold mX7_nearestOf
  refine tr_V.iconst (v := (0 : Int32)) dX7_nearestOf_0 (by decide) ?_
  refine tr_V.istore_n (i := 2) dX7_nearestOf_1 rfl (Nat.le_of_ble_eq_true rfl) rfl ?_
  refine tr_V.seq (τ := tr_M) (pc' := 28) (L := fun v1 => [(0, some (.ref 1))]) (S := fun v1 => []) (Mf := fun v1 => v1) ?_ ?_
  · refine tr_V.loop (σ := Int32 × tr_M) (step := mX7_nearestOf_l2 p1) (L := fun s2 => [(0, some (.ref 1)), (1, some (.int p1)), (2, some (.int s2.1))]) (Mf := fun s2 => s2.2) ?_ ((0 : Int32), M) ⟨rfl, rfl, rfl, trivial⟩
    intro s2
    refine tr_V.iload_n (i := 2) dX7_nearestOf_2 rfl rfl ?_
    refine tr_V.aload_n (i := 0) dX7_nearestOf_3 rfl rfl ?_
    refine tr_V.getI fl_X7_157 shM_1 rfl dX7_nearestOf_4 ?_
    refine tr_V.icmp_ge (tgt := 28) dX7_nearestOf_7 (by decide) ?_ ?_
    · refine tr_V.aload_n (i := 0) dX7_nearestOf_10 rfl rfl ?_
      refine tr_V.getR (Nat.succ_pos _) fl_X7_65 shM_1 rfl dX7_nearestOf_11 ?_
      refine tr_V.iload_n (i := 2) dX7_nearestOf_14 rfl rfl ?_
      refine tr_V.aload_n (i := 0) dX7_nearestOf_15 rfl rfl ?_
      refine tr_V.iload_n (i := 1) dX7_nearestOf_16 rfl rfl ?_
      refine tr_V.iload_n (i := 2) dX7_nearestOf_17 rfl rfl ?_
      refine tr_V.bd (fun c3 h4 => ?_)
      refine tr_V.callV (C_X7_weight p1 s2.1 s2.2 _ h4) yk_X7_weight iv_X7_weight ml_X7_166 shM_1 rfl ⟨rfl, Nat.le_of_ble_eq_true rfl⟩ rfl (Nat.le_of_ble_eq_true rfl) rfl dX7_nearestOf_18 ?_
      refine tr_V.bd (fun M5 h6 => ?_)
      refine tr_V.iast h6 shM_20 dX7_nearestOf_21 ?_
      refine tr_V.iinc (cst := (1 : Int32)) dX7_nearestOf_22 rfl (by decide) rfl ?_
      refine tr_V.goto (tgt := 2) dX7_nearestOf_25 (by decide) ?_
      exact tr_V.to (fun h => h) ⟨rfl, rfl, rfl, trivial⟩
    · exact tr_V.to (fun h => h) ⟨rfl, trivial⟩
  · intro v1
    refine tr_V.iconst (v := (0 : Int32)) dX7_nearestOf_28 (by decide) ?_
    refine tr_V.istore_n (i := 2) dX7_nearestOf_29 rfl (Nat.le_of_ble_eq_true rfl) rfl ?_
    refine tr_V.iconst (v := (0 : Int32)) dX7_nearestOf_30 (by decide) ?_
    refine tr_V.istore_n (i := 3) dX7_nearestOf_31 rfl (Nat.le_of_ble_eq_true rfl) rfl ?_
    refine tr_V.loop (σ := Int32 × Int32 × tr_M) (step := mX7_nearestOf_l32) (L := fun s7 => [(0, some (.ref 1)), (2, some (.int s7.1)), (3, some (.int s7.2.1))]) (Mf := fun s7 => s7.2.2) ?_ ((0 : Int32), (0 : Int32), v1) ⟨rfl, rfl, rfl, trivial⟩
    intro s7
    refine tr_V.iload_n (i := 3) dX7_nearestOf_32 rfl rfl ?_
    refine tr_V.aload_n (i := 0) dX7_nearestOf_33 rfl rfl ?_
    refine tr_V.getI fl_X7_157 shM_1 rfl dX7_nearestOf_34 ?_
    refine tr_V.icmp_ge (tgt := 117) dX7_nearestOf_37 (by decide) ?_ ?_
    · refine tr_V.iconst (v := (0 : Int32)) dX7_nearestOf_40 (by decide) ?_
      refine tr_V.istore (i := 4) dX7_nearestOf_41 (Nat.le_of_ble_eq_true rfl) rfl ?_
      refine tr_V.iconst (v := (1 : Int32)) dX7_nearestOf_43 (by decide) ?_
      refine tr_V.istore (i := 5) dX7_nearestOf_44 (Nat.le_of_ble_eq_true rfl) rfl ?_
      refine tr_V.seq (τ := Int32) (pc' := 87) (L := fun v8 => [(0, some (.ref 1)), (2, some (.int s7.1)), (3, some (.int s7.2.1)), (4, some (.int v8))]) (S := fun v8 => []) (Mf := fun v8 => s7.2.2) ?_ ?_
      · refine tr_V.loop (σ := Int32 × Int32) (step := mX7_nearestOf_l46 s7) (L := fun s9 => [(0, some (.ref 1)), (2, some (.int s7.1)), (3, some (.int s7.2.1)), (4, some (.int s9.1)), (5, some (.int s9.2))]) (Mf := fun s9 => s7.2.2) ?_ ((0 : Int32), (1 : Int32)) ⟨rfl, rfl, rfl, rfl, rfl, trivial⟩
        intro s9
        refine tr_V.iload dX7_nearestOf_46 rfl ?_
        refine tr_V.aload_n (i := 0) dX7_nearestOf_48 rfl rfl ?_
        refine tr_V.getI fl_X7_157 shM_1 rfl dX7_nearestOf_49 ?_
        refine tr_V.icmp_ge (tgt := 87) dX7_nearestOf_52 (by decide) ?_ ?_
        · refine tr_V.aload_n (i := 0) dX7_nearestOf_55 rfl rfl ?_
          refine tr_V.getR (Nat.succ_pos _) fl_X7_65 shM_1 rfl dX7_nearestOf_56 ?_
          refine tr_V.iload dX7_nearestOf_59 rfl ?_
          refine tr_V.bd (fun a10 h11 => ?_)
          refine tr_V.iald h11 shM_20 dX7_nearestOf_61 ?_
          refine tr_V.aload_n (i := 0) dX7_nearestOf_62 rfl rfl ?_
          refine tr_V.getR (Nat.succ_pos _) fl_X7_65 shM_1 rfl dX7_nearestOf_63 ?_
          refine tr_V.iload dX7_nearestOf_66 rfl ?_
          refine tr_V.bd (fun a12 h13 => ?_)
          refine tr_V.iald h13 shM_20 dX7_nearestOf_68 ?_
          refine tr_V.icmp_le (tgt := 77) dX7_nearestOf_69 (by decide) ?_ ?_
          · refine tr_V.iload dX7_nearestOf_72 rfl ?_
            refine tr_V.goto (tgt := 79) dX7_nearestOf_74 (by decide) ?_
            refine tr_V.istore (i := 4) dX7_nearestOf_79 (Nat.le_of_ble_eq_true rfl) rfl ?_
            refine tr_V.iinc (cst := (1 : Int32)) dX7_nearestOf_81 rfl (by decide) rfl ?_
            refine tr_V.goto (tgt := 46) dX7_nearestOf_84 (by decide) ?_
            exact tr_V.to (fun h => h) ⟨rfl, rfl, rfl, rfl, rfl, trivial⟩
          · refine tr_V.iload dX7_nearestOf_77 rfl ?_
            refine tr_V.istore (i := 4) dX7_nearestOf_79 (Nat.le_of_ble_eq_true rfl) rfl ?_
            refine tr_V.iinc (cst := (1 : Int32)) dX7_nearestOf_81 rfl (by decide) rfl ?_
            refine tr_V.goto (tgt := 46) dX7_nearestOf_84 (by decide) ?_
            exact tr_V.to (fun h => h) ⟨rfl, rfl, rfl, rfl, rfl, trivial⟩
        · exact tr_V.to (fun h => h) ⟨rfl, rfl, rfl, rfl, trivial⟩
      · intro v8
        refine tr_V.iload_n (i := 2) dX7_nearestOf_87 rfl rfl ?_
        refine tr_V.aload_n (i := 0) dX7_nearestOf_88 rfl rfl ?_
        refine tr_V.getR (Nat.succ_pos _) fl_X7_65 shM_1 rfl dX7_nearestOf_89 ?_
        refine tr_V.iload dX7_nearestOf_92 rfl ?_
        refine tr_V.bd (fun a14 h15 => ?_)
        refine tr_V.iald h15 shM_20 dX7_nearestOf_94 ?_
        refine tr_V.iload_n (i := 3) dX7_nearestOf_95 rfl rfl ?_
        refine tr_V.iconst (v := (2 : Int32)) dX7_nearestOf_96 (by decide) ?_
        refine tr_V.idivL dX7_nearestOf_97 (by decide) ?_
        refine tr_V.iconst (v := (1 : Int32)) dX7_nearestOf_98 (by decide) ?_
        refine tr_V.iadd dX7_nearestOf_99 ?_
        refine tr_V.imul dX7_nearestOf_100 ?_
        refine tr_V.iadd dX7_nearestOf_101 ?_
        refine tr_V.bd (fun x16 h17 => ?_)
        refine tr_V.nmI h17 ?_
        refine tr_V.istore_n (i := 2) dX7_nearestOf_102 rfl (Nat.le_of_ble_eq_true rfl) rfl ?_
        refine tr_V.aload_n (i := 0) dX7_nearestOf_103 rfl rfl ?_
        refine tr_V.getR (Nat.succ_pos _) fl_X7_65 shM_1 rfl dX7_nearestOf_104 ?_
        refine tr_V.iload dX7_nearestOf_107 rfl ?_
        refine tr_V.iconst (v := (0 : Int32)) dX7_nearestOf_109 (by decide) ?_
        refine tr_V.bd (fun M18 h19 => ?_)
        refine tr_V.iast h19 shM_20 dX7_nearestOf_110 ?_
        refine tr_V.iinc (cst := (1 : Int32)) dX7_nearestOf_111 rfl (by decide) rfl ?_
        refine tr_V.goto (tgt := 32) dX7_nearestOf_114 (by decide) ?_
        exact tr_V.to (fun h => h) ⟨rfl, rfl, rfl, trivial⟩
    · refine tr_V.iload_n (i := 2) dX7_nearestOf_117 rfl rfl ?_
      exact tr_V.iret dX7_nearestOf_118 rfl (fun h => h)
abbrev xX7_tiesOf : tr_X := (cX7_tiesOf, 4, RX7, (some .int), 2, shM, 24)
theorem cw_X7_tiesOf : Cond.code yX7_tiesOf cX7_tiesOf 4 (some .int) ∈ tr_tbl := tr_in 1628 (by decide +kernel) rfl
theorem yk_X7_tiesOf : tr_yk yX7_tiesOf (xX7_tiesOf) 1 := ⟨cw_X7_tiesOf, in_X7, ⟨by decide +kernel, by decide +kernel, by decide +kernel⟩, Nat.le_of_ble_eq_true rfl⟩
theorem iv_X7_tiesOf : Cond.instanceMethod yX7_tiesOf ∈ tr_tbl ∧ Cond.selects (yX7_tiesOf).cls yX7_tiesOf yX7_tiesOf ∈ tr_tbl := ⟨tr_in 1627 (by decide +kernel) rfl, tr_in 109 (by decide +kernel) rfl⟩
def mX7_tiesOf_l4 (p1 : Int32) (M : tr_M) (s1 : Int32 × Int32) : Option ((Int32 × Int32) ⊕ (Int32)) :=
  if s1.2 < (M.1 1 10) then (
    Option.bind (mX7_weight p1 s1.2 M) (fun c2 =>
    if 0 < c2 then (
      some (.inl ((s1.1 + (1 : Int32)), (s1.2 + (1 : Int32))))
    ) else (
      some (.inl ((s1.1 + (0 : Int32)), (s1.2 + (1 : Int32))))
    )
    )
  ) else (
    some (.inr s1.1)
  )
def mX7_tiesOf (p1 : Int32) (M : tr_M) : Option (Int32) :=
  tr_loop (mX7_tiesOf_l4 p1 M) ((0 : Int32), (0 : Int32))
set_option maxRecDepth 100000 in
set_option maxHeartbeats 4000000 in
theorem C_X7_tiesOf (p1 : Int32) (M : tr_M) (r : Int32) (h : mX7_tiesOf p1 M = some r) : tr_I yX7_tiesOf (xX7_tiesOf) [.ref 1, .int p1] M (some (.int r)) M := by
  refine tr_I.of (Z := fun q : Int32 => (some (.int r) : Option Value) = some (.int q) ∧ M = M) pn_X7 rfl gdM (Nat.le_of_ble_eq_true rfl) (fun Wt => ?_) h ⟨rfl, rfl⟩
  unfold mX7_tiesOf
  refine tr_V.iconst (v := (0 : Int32)) dX7_tiesOf_0 (by decide) ?_
  refine tr_V.istore_n (i := 2) dX7_tiesOf_1 rfl (Nat.le_of_ble_eq_true rfl) rfl ?_
  refine tr_V.iconst (v := (0 : Int32)) dX7_tiesOf_2 (by decide) ?_
  refine tr_V.istore_n (i := 3) dX7_tiesOf_3 rfl (Nat.le_of_ble_eq_true rfl) rfl ?_
  refine tr_V.loop (σ := Int32 × Int32) (step := mX7_tiesOf_l4 p1 M) (L := fun s1 => [(0, some (.ref 1)), (1, some (.int p1)), (2, some (.int s1.1)), (3, some (.int s1.2))]) (Mf := fun s1 => M) ?_ ((0 : Int32), (0 : Int32)) ⟨rfl, rfl, rfl, rfl, trivial⟩
  intro s1
  refine tr_V.iload_n (i := 3) dX7_tiesOf_4 rfl rfl ?_
  refine tr_V.aload_n (i := 0) dX7_tiesOf_5 rfl rfl ?_
  refine tr_V.getI fl_X7_157 shM_1 rfl dX7_tiesOf_6 ?_
  refine tr_V.icmp_ge (tgt := 35) dX7_tiesOf_9 (by decide) ?_ ?_
  · refine tr_V.iload_n (i := 2) dX7_tiesOf_12 rfl rfl ?_
    refine tr_V.aload_n (i := 0) dX7_tiesOf_13 rfl rfl ?_
    refine tr_V.iload_n (i := 1) dX7_tiesOf_14 rfl rfl ?_
    refine tr_V.iload_n (i := 3) dX7_tiesOf_15 rfl rfl ?_
    refine tr_V.bd (fun c2 h3 => ?_)
    refine tr_V.callV (C_X7_weight p1 s1.2 M _ h3) yk_X7_weight iv_X7_weight ml_X7_166 shM_1 rfl ⟨rfl, Nat.le_of_ble_eq_true rfl⟩ rfl (Nat.le_of_ble_eq_true rfl) rfl dX7_tiesOf_16 ?_
    refine tr_V.if_le (tgt := 26) dX7_tiesOf_19 (by decide) ?_ ?_
    · refine tr_V.iconst (v := (1 : Int32)) dX7_tiesOf_22 (by decide) ?_
      refine tr_V.goto (tgt := 27) dX7_tiesOf_23 (by decide) ?_
      refine tr_V.iadd dX7_tiesOf_27 ?_
      refine tr_V.istore_n (i := 2) dX7_tiesOf_28 rfl (Nat.le_of_ble_eq_true rfl) rfl ?_
      refine tr_V.iinc (cst := (1 : Int32)) dX7_tiesOf_29 rfl (by decide) rfl ?_
      refine tr_V.goto (tgt := 4) dX7_tiesOf_32 (by decide) ?_
      exact tr_V.to (fun h => h) ⟨rfl, rfl, rfl, rfl, trivial⟩
    · refine tr_V.iconst (v := (0 : Int32)) dX7_tiesOf_26 (by decide) ?_
      refine tr_V.iadd dX7_tiesOf_27 ?_
      refine tr_V.istore_n (i := 2) dX7_tiesOf_28 rfl (Nat.le_of_ble_eq_true rfl) rfl ?_
      refine tr_V.iinc (cst := (1 : Int32)) dX7_tiesOf_29 rfl (by decide) rfl ?_
      refine tr_V.goto (tgt := 4) dX7_tiesOf_32 (by decide) ?_
      exact tr_V.to (fun h => h) ⟨rfl, rfl, rfl, rfl, trivial⟩
  · refine tr_V.iload_n (i := 2) dX7_tiesOf_35 rfl rfl ?_
    exact tr_V.iret dX7_tiesOf_36 rfl (fun h => h)
abbrev xX7_weightOf : tr_X := (cX7_weightOf, 4, RX7, (some .int), 2, shM, 24)
theorem cw_X7_weightOf : Cond.code yX7_weightOf cX7_weightOf 4 (some .int) ∈ tr_tbl := tr_in 1632 (by decide +kernel) rfl
theorem yk_X7_weightOf : tr_yk yX7_weightOf (xX7_weightOf) 1 := ⟨cw_X7_weightOf, in_X7, ⟨by decide +kernel, by decide +kernel, by decide +kernel⟩, Nat.le_of_ble_eq_true rfl⟩
theorem iv_X7_weightOf : Cond.instanceMethod yX7_weightOf ∈ tr_tbl ∧ Cond.selects (yX7_weightOf).cls yX7_weightOf yX7_weightOf ∈ tr_tbl := ⟨tr_in 1631 (by decide +kernel) rfl, tr_in 110 (by decide +kernel) rfl⟩
def mX7_weightOf_l4 (p1 : Int32) (M : tr_M) (s1 : Int32 × Int32) : Option ((Int32 × Int32) ⊕ (Int32)) :=
  if s1.2 < (M.1 1 10) then (
    Option.bind (mX7_weight p1 s1.2 M) (fun c2 =>
    some (.inl ((s1.1 + c2), (s1.2 + (1 : Int32))))
    )
  ) else (
    some (.inr s1.1)
  )
def mX7_weightOf (p1 : Int32) (M : tr_M) : Option (Int32) :=
  tr_loop (mX7_weightOf_l4 p1 M) ((0 : Int32), (0 : Int32))
set_option maxRecDepth 100000 in
set_option maxHeartbeats 4000000 in
theorem C_X7_weightOf (p1 : Int32) (M : tr_M) (r : Int32) (h : mX7_weightOf p1 M = some r) : tr_I yX7_weightOf (xX7_weightOf) [.ref 1, .int p1] M (some (.int r)) M := by
  refine tr_I.of (Z := fun q : Int32 => (some (.int r) : Option Value) = some (.int q) ∧ M = M) pn_X7 rfl gdM (Nat.le_of_ble_eq_true rfl) (fun Wt => ?_) h ⟨rfl, rfl⟩
  unfold mX7_weightOf
  refine tr_V.iconst (v := (0 : Int32)) dX7_weightOf_0 (by decide) ?_
  refine tr_V.istore_n (i := 2) dX7_weightOf_1 rfl (Nat.le_of_ble_eq_true rfl) rfl ?_
  refine tr_V.iconst (v := (0 : Int32)) dX7_weightOf_2 (by decide) ?_
  refine tr_V.istore_n (i := 3) dX7_weightOf_3 rfl (Nat.le_of_ble_eq_true rfl) rfl ?_
  refine tr_V.loop (σ := Int32 × Int32) (step := mX7_weightOf_l4 p1 M) (L := fun s1 => [(0, some (.ref 1)), (1, some (.int p1)), (2, some (.int s1.1)), (3, some (.int s1.2))]) (Mf := fun s1 => M) ?_ ((0 : Int32), (0 : Int32)) ⟨rfl, rfl, rfl, rfl, trivial⟩
  intro s1
  refine tr_V.iload_n (i := 3) dX7_weightOf_4 rfl rfl ?_
  refine tr_V.aload_n (i := 0) dX7_weightOf_5 rfl rfl ?_
  refine tr_V.getI fl_X7_157 shM_1 rfl dX7_weightOf_6 ?_
  refine tr_V.icmp_ge (tgt := 27) dX7_weightOf_9 (by decide) ?_ ?_
  · refine tr_V.iload_n (i := 2) dX7_weightOf_12 rfl rfl ?_
    refine tr_V.aload_n (i := 0) dX7_weightOf_13 rfl rfl ?_
    refine tr_V.iload_n (i := 1) dX7_weightOf_14 rfl rfl ?_
    refine tr_V.iload_n (i := 3) dX7_weightOf_15 rfl rfl ?_
    refine tr_V.bd (fun c2 h3 => ?_)
    refine tr_V.callV (C_X7_weight p1 s1.2 M _ h3) yk_X7_weight iv_X7_weight ml_X7_166 shM_1 rfl ⟨rfl, Nat.le_of_ble_eq_true rfl⟩ rfl (Nat.le_of_ble_eq_true rfl) rfl dX7_weightOf_16 ?_
    refine tr_V.iadd dX7_weightOf_19 ?_
    refine tr_V.istore_n (i := 2) dX7_weightOf_20 rfl (Nat.le_of_ble_eq_true rfl) rfl ?_
    refine tr_V.iinc (cst := (1 : Int32)) dX7_weightOf_21 rfl (by decide) rfl ?_
    refine tr_V.goto (tgt := 4) dX7_weightOf_24 (by decide) ?_
    exact tr_V.to (fun h => h) ⟨rfl, rfl, rfl, rfl, trivial⟩
  · refine tr_V.iload_n (i := 2) dX7_weightOf_27 rfl rfl ?_
    exact tr_V.iret dX7_weightOf_28 rfl (fun h => h)
