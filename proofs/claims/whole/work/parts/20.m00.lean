abbrev xX1_isMissing : tr_X := (cX1_isMissing, 1, RX1, (some .boolean), 1, shC, 81)
theorem cw_X1_isMissing : Cond.code yX1_isMissing cX1_isMissing 1 (some .boolean) ∈ tr_tbl := tr_in 418 (by decide +kernel) rfl
theorem yk_X1_isMissing : tr_yk yX1_isMissing (xX1_isMissing) 0 := ⟨cw_X1_isMissing, in_X1, ⟨by decide +kernel, by decide +kernel, by decide +kernel⟩, Nat.le_of_ble_eq_true rfl⟩
theorem iv_X1_isMissing : Cond.instanceMethod yX1_isMissing ∈ tr_tbl ∧ Cond.selects (yX1_isMissing).cls yX1_isMissing yX1_isMissing ∈ tr_tbl := ⟨tr_in 416 (by decide +kernel) rfl, tr_in 417 (by decide +kernel) rfl⟩
def mX1_isMissing' (o : Nat) (M : tr_M) : Option Int32 :=
  if (M.1 o 1) < 0 then (
    some (1 : Int32)
  ) else (
    some (0 : Int32)
  )
def mX1_isMissing (o : Nat) (M : tr_M) : Int32 :=
  if (M.1 o 1) < 0 then (
    (1 : Int32)
  ) else (
    (0 : Int32)
  )
theorem mX1_isMissing_eq (o : Nat) (M : tr_M) : mX1_isMissing' o M = some (mX1_isMissing o M) := by
  unfold mX1_isMissing' mX1_isMissing
  repeat' split
  all_goals rfl
set_option maxRecDepth 100000 in
set_option maxHeartbeats 4000000 in
theorem C_X1_isMissing (o : Nat) (ho : tr_isLp o) (M : tr_M) : tr_I yX1_isMissing (xX1_isMissing) [.ref o] M (some (.int (mX1_isMissing o M))) M := by
  refine tr_I.of (Z := fun q : Int32 => (some (.int (mX1_isMissing o M)) : Option Value) = some (.int q) ∧ M = M) pn_X1 rfl gdC (Nat.le_of_ble_eq_true rfl) (fun Wt => ?_) (mX1_isMissing_eq o M) ⟨rfl, rfl⟩
  unfold mX1_isMissing'
  refine tr_V.aload_n (i := 0) dX1_isMissing_0 rfl rfl ?_
  refine tr_V.getI fl_X1_9 (shL ho) rfl dX1_isMissing_1 ?_
  refine tr_V.if_ge (tgt := 11) dX1_isMissing_4 (by decide) ?_ ?_
  · refine tr_V.iconst (v := (1 : Int32)) dX1_isMissing_7 (by decide) ?_
    refine tr_V.goto (tgt := 12) dX1_isMissing_8 (by decide) ?_
    exact tr_V.zret (by decide) dX1_isMissing_12 rfl (fun h => h)
  · refine tr_V.iconst (v := (0 : Int32)) dX1_isMissing_11 (by decide) ?_
    exact tr_V.zret (by decide) dX1_isMissing_12 rfl (fun h => h)
abbrev xJ7_rangeCheck_23922 (sh : Nat → tr_S) (N : Nat) : tr_X := (cJ7_rangeCheck_23922, 3, RJ7, (Option.none : Option Jvm.ClassFile.FieldType), 1, sh, N)
theorem cw_J7_rangeCheck_23922 : Cond.code yJ7_rangeCheck_23922 cJ7_rangeCheck_23922 3 (Option.none : Option Jvm.ClassFile.FieldType) ∈ tr_tbl := tr_in 406 (by decide +kernel) rfl
theorem yk_J7_rangeCheck_23922 {sh : Nat → tr_S} {N : Nat} : tr_yk yJ7_rangeCheck_23922 (xJ7_rangeCheck_23922 sh N) 3 := ⟨cw_J7_rangeCheck_23922, in_J7, ⟨by decide +kernel, by decide +kernel, by decide +kernel⟩, Nat.le_of_ble_eq_true rfl⟩
theorem sc_J7_rangeCheck_23922 : Cond.static yJ7_rangeCheck_23922 ∈ tr_tbl := tr_in 405 (by decide +kernel) rfl
def mJ7_rangeCheck_23922 (p0 : Int32) (p1 : Int32) (p2 : Int32) : Option (Unit) :=
  if p2 < p1 then (
    none
  ) else (
    if p1 < 0 then (
      none
    ) else (
      if p0 < p2 then (
        none
      ) else (
        some ()
      )
    )
  )
set_option maxRecDepth 100000 in
set_option maxHeartbeats 4000000 in
theorem C_J7_rangeCheck_23922 (sh : Nat → tr_S) (N : Nat) (hg : tr_good sh N) (p0 : Int32) (p1 : Int32) (p2 : Int32) (M : tr_M) (r : Unit) (h : mJ7_rangeCheck_23922 p0 p1 p2 = some r) : tr_I yJ7_rangeCheck_23922 (xJ7_rangeCheck_23922 sh N) [.int p0, .int p1, .int p2] M none M := by
  refine tr_I.of (Z := fun q : Unit => (none : Option Value) = none ∧ M = M) pn_J7 rfl hg (Nat.le_of_ble_eq_true rfl) (fun Wt => ?_) h ⟨rfl, rfl⟩
  unfold mJ7_rangeCheck_23922
  refine tr_V.iload_n (i := 1) dJ7_rangeCheck_23922_0 rfl rfl ?_
  refine tr_V.iload_n (i := 2) dJ7_rangeCheck_23922_1 rfl rfl ?_
  refine tr_V.icmp_le (tgt := 46) dJ7_rangeCheck_23922_2 (by decide) ?_ ?_
  · exact tr_V.none
  · refine tr_V.iload_n (i := 1) dJ7_rangeCheck_23922_46 rfl rfl ?_
    refine tr_V.if_ge (tgt := 59) dJ7_rangeCheck_23922_47 (by decide) ?_ ?_
    · exact tr_V.none
    · refine tr_V.iload_n (i := 2) dJ7_rangeCheck_23922_59 rfl rfl ?_
      refine tr_V.iload_n (i := 0) dJ7_rangeCheck_23922_60 rfl rfl ?_
      refine tr_V.icmp_le (tgt := 73) dJ7_rangeCheck_23922_61 (by decide) ?_ ?_
      · exact tr_V.none
      · exact tr_V.vret dJ7_rangeCheck_23922_73 rfl (fun h => h)
abbrev xJ7_fill_fda19 (sh : Nat → tr_S) (N : Nat) : tr_X := (cJ7_fill_fda19, 5, RJ7, (Option.none : Option Jvm.ClassFile.FieldType), 2, sh, N)
theorem cw_J7_fill_fda19 : Cond.code yJ7_fill_fda19 cJ7_fill_fda19 5 (Option.none : Option Jvm.ClassFile.FieldType) ∈ tr_tbl := tr_in 403 (by decide +kernel) rfl
theorem yk_J7_fill_fda19 {sh : Nat → tr_S} {N : Nat} : tr_yk yJ7_fill_fda19 (xJ7_fill_fda19 sh N) 4 := ⟨cw_J7_fill_fda19, in_J7, ⟨by decide +kernel, by decide +kernel, by decide +kernel⟩, Nat.le_of_ble_eq_true rfl⟩
theorem sc_J7_fill_fda19 : Cond.static yJ7_fill_fda19 ∈ tr_tbl := tr_in 402 (by decide +kernel) rfl
def mJ7_fill_fda19_l10 (p0 : Nat) (p2 : Int32) (p3 : Int32) (sh : Nat → tr_S) (s4 : Int32 × tr_M) : Option ((Int32 × tr_M) ⊕ (tr_M)) :=
  if s4.1 < p2 then (
    Option.bind (tr_wr (tr_len sh p0) s4.2 p0 s4.1 p3) (fun M5 =>
    some (.inl ((s4.1 + (1 : Int32)), M5))
    )
  ) else (
    some (.inr s4.2)
  )
def mJ7_fill_fda19 (sh : Nat → tr_S) (p0 : Nat) (p1 : Int32) (p2 : Int32) (p3 : Int32) (M : tr_M) : Option (tr_M) :=
  Option.bind (tr_gd (decide (tr_len sh p0 ≠ 0))) (fun _ =>
  Option.bind (mJ7_rangeCheck_23922 (nI (tr_len sh p0)) p1 p2) (fun c2 =>
  tr_loop (mJ7_fill_fda19_l10 p0 p2 p3 sh) (p1, M)
  )
  )
set_option maxRecDepth 100000 in
set_option maxHeartbeats 4000000 in
theorem C_J7_fill_fda19 (sh : Nat → tr_S) (N : Nat) (hg : tr_good sh N) (p0 : Nat) (p1 : Int32) (p2 : Int32) (p3 : Int32) (M M' : tr_M) (h : mJ7_fill_fda19 sh p0 p1 p2 p3 M = some M') : tr_I yJ7_fill_fda19 (xJ7_fill_fda19 sh N) [.ref p0, .int p1, .int p2, .int p3] M none M' := by
  refine tr_I.of (Z := fun q : tr_M => (none : Option Value) = none ∧ M' = q) pn_J7 rfl hg (Nat.le_of_ble_eq_true rfl) (fun Wt => ?_) h ⟨rfl, rfl⟩
  unfold mJ7_fill_fda19
  refine tr_V.aload_n (i := 0) dJ7_fill_fda19_0 rfl rfl ?_
  refine tr_V.gd (fun h1 => ?_)
  refine tr_V.alenI (of_decide_eq_true h1) dJ7_fill_fda19_1 ?_
  refine tr_V.iload_n (i := 1) dJ7_fill_fda19_2 rfl rfl ?_
  refine tr_V.iload_n (i := 2) dJ7_fill_fda19_3 rfl rfl ?_
  refine tr_V.bd (fun c2 h3 => ?_)
  refine tr_V.callS (C_J7_rangeCheck_23922 sh N hg (nI (tr_len sh p0)) p1 p2 M _ h3) yk_J7_rangeCheck_23922 sc_J7_rangeCheck_23922 ml_J7_13 ⟨rfl, Nat.le_of_ble_eq_true rfl⟩ rfl (Nat.le_of_ble_eq_true rfl) rfl dJ7_fill_fda19_4 ?_
  refine tr_V.iload_n (i := 1) dJ7_fill_fda19_7 rfl rfl ?_
  refine tr_V.istore (i := 4) dJ7_fill_fda19_8 (Nat.le_of_ble_eq_true rfl) rfl ?_
  refine tr_V.loop (σ := Int32 × tr_M) (step := mJ7_fill_fda19_l10 p0 p2 p3 sh) (L := fun s4 => [(0, some (.ref p0)), (2, some (.int p2)), (3, some (.int p3)), (4, some (.int s4.1))]) (Mf := fun s4 => s4.2) ?_ (p1, M) ⟨rfl, rfl, rfl, rfl, trivial⟩
  intro s4
  refine tr_V.iload dJ7_fill_fda19_10 rfl ?_
  refine tr_V.iload_n (i := 2) dJ7_fill_fda19_12 rfl rfl ?_
  refine tr_V.icmp_ge (tgt := 27) dJ7_fill_fda19_13 (by decide) ?_ ?_
  · refine tr_V.aload_n (i := 0) dJ7_fill_fda19_16 rfl rfl ?_
    refine tr_V.iload dJ7_fill_fda19_17 rfl ?_
    refine tr_V.iload_n (i := 3) dJ7_fill_fda19_19 rfl rfl ?_
    refine tr_V.bd (fun M5 h6 => ?_)
    refine tr_V.iastL h6 dJ7_fill_fda19_20 ?_
    refine tr_V.iinc (cst := (1 : Int32)) dJ7_fill_fda19_21 rfl (by decide) rfl ?_
    refine tr_V.goto (tgt := 10) dJ7_fill_fda19_24 (by decide) ?_
    exact tr_V.to (fun h => h) ⟨rfl, rfl, rfl, rfl, trivial⟩
  · exact tr_V.vret dJ7_fill_fda19_27 rfl (fun h => h)
abbrev xX1_make : tr_X := (cX1_make, 3, RX1, (Option.none : Option Jvm.ClassFile.FieldType), 3, shC, 81)
theorem cw_X1_make : Cond.code yX1_make cX1_make 3 (Option.none : Option Jvm.ClassFile.FieldType) ∈ tr_tbl := tr_in 400 (by decide +kernel) rfl
theorem yk_X1_make : tr_yk yX1_make (xX1_make) 2 := ⟨cw_X1_make, in_X1, ⟨by decide +kernel, by decide +kernel, by decide +kernel⟩, Nat.le_of_ble_eq_true rfl⟩
theorem iv_X1_make : Cond.instanceMethod yX1_make ∈ tr_tbl ∧ Cond.selects (yX1_make).cls yX1_make yX1_make ∈ tr_tbl := ⟨tr_in 398 (by decide +kernel) rfl, tr_in 399 (by decide +kernel) rfl⟩
def mX1_make (o : Nat) (p1 : Int32) (p2 : Int32) (M : tr_M) : Option (tr_M) :=
  Option.bind (some (tr_st M o 1 p1)) (fun M1 =>
  Option.bind (mJ7_fill_fda19 shC (o + 1) (0 : Int32) p1 p2 M1) (fun c3 =>
  some c3
  )
  )
set_option maxRecDepth 100000 in
set_option maxHeartbeats 4000000 in
theorem C_X1_make (o : Nat) (ho : tr_isLp o) (p1 : Int32) (p2 : Int32) (M M' : tr_M) (h : mX1_make o p1 p2 M = some M') : tr_I yX1_make (xX1_make) [.ref o, .int p1, .int p2] M none M' := by
  refine tr_I.of (Z := fun q : tr_M => (none : Option Value) = none ∧ M' = q) pn_X1 rfl gdC (Nat.le_of_ble_eq_true rfl) (fun Wt => ?_) h ⟨rfl, rfl⟩
  unfold mX1_make
  refine tr_V.aload_n (i := 0) dX1_make_0 rfl rfl ?_
  refine tr_V.iload_n (i := 1) dX1_make_1 rfl rfl ?_
  refine tr_V.bd (fun M1 h2 => ?_)
  refine tr_V.putI fl_X1_9 (shL ho) rfl dX1_make_2 h2 ?_
  refine tr_V.aload_n (i := 0) dX1_make_5 rfl rfl ?_
  refine tr_V.getR (Nat.succ_pos _) fl_X1_15 (shL ho) rfl dX1_make_6 ?_
  refine tr_V.iconst (v := (0 : Int32)) dX1_make_9 (by decide) ?_
  refine tr_V.iload_n (i := 1) dX1_make_10 rfl rfl ?_
  refine tr_V.iload_n (i := 2) dX1_make_11 rfl rfl ?_
  refine tr_V.bd (fun c3 h4 => ?_)
  refine tr_V.callS (C_J7_fill_fda19 shC 81 gdC (o + 1) (0 : Int32) p1 p2 M1 _ h4) yk_J7_fill_fda19 sc_J7_fill_fda19 ml_X1_19 ⟨rfl, Nat.le_of_ble_eq_true rfl⟩ rfl (Nat.le_of_ble_eq_true rfl) rfl dX1_make_12 ?_
  exact tr_V.vret dX1_make_15 rfl (fun h => h)
abbrev xX1_faultAt : tr_X := (cX1_faultAt, 2, RX1, (some .int), 2, shC, 81)
theorem cw_X1_faultAt : Cond.code yX1_faultAt cX1_faultAt 2 (some .int) ∈ tr_tbl := tr_in 414 (by decide +kernel) rfl
theorem yk_X1_faultAt : tr_yk yX1_faultAt (xX1_faultAt) 1 := ⟨cw_X1_faultAt, in_X1, ⟨by decide +kernel, by decide +kernel, by decide +kernel⟩, Nat.le_of_ble_eq_true rfl⟩
theorem iv_X1_faultAt : Cond.instanceMethod yX1_faultAt ∈ tr_tbl ∧ Cond.selects (yX1_faultAt).cls yX1_faultAt yX1_faultAt ∈ tr_tbl := ⟨tr_in 412 (by decide +kernel) rfl, tr_in 413 (by decide +kernel) rfl⟩
def mX1_faultAt' (o : Nat) (p1 : Int32) (M : tr_M) : Option Int32 :=
  if (mX1_isMissing o M) = 0 then (
    if p1 < 0 then (
      some (2 : Int32)
    ) else (
      if p1 < (M.1 o 1) then (
        some (0 : Int32)
      ) else (
        some (2 : Int32)
      )
    )
  ) else (
    some (1 : Int32)
  )
def mX1_faultAt (o : Nat) (p1 : Int32) (M : tr_M) : Int32 :=
  if (mX1_isMissing o M) = 0 then (
    if p1 < 0 then (
      (2 : Int32)
    ) else (
      if p1 < (M.1 o 1) then (
        (0 : Int32)
      ) else (
        (2 : Int32)
      )
    )
  ) else (
    (1 : Int32)
  )
theorem mX1_faultAt_eq (o : Nat) (p1 : Int32) (M : tr_M) : mX1_faultAt' o p1 M = some (mX1_faultAt o p1 M) := by
  unfold mX1_faultAt' mX1_faultAt
  repeat' split
  all_goals rfl
set_option maxRecDepth 100000 in
set_option maxHeartbeats 4000000 in
theorem C_X1_faultAt (o : Nat) (ho : tr_isLp o) (p1 : Int32) (M : tr_M) : tr_I yX1_faultAt (xX1_faultAt) [.ref o, .int p1] M (some (.int (mX1_faultAt o p1 M))) M := by
  refine tr_I.of (Z := fun q : Int32 => (some (.int (mX1_faultAt o p1 M)) : Option Value) = some (.int q) ∧ M = M) pn_X1 rfl gdC (Nat.le_of_ble_eq_true rfl) (fun Wt => ?_) (mX1_faultAt_eq o p1 M) ⟨rfl, rfl⟩
  unfold mX1_faultAt'
  refine tr_V.aload_n (i := 0) dX1_faultAt_0 rfl rfl ?_
  refine tr_V.callV (C_X1_isMissing o ho M) yk_X1_isMissing iv_X1_isMissing ml_X1_25 (shL ho) rfl ⟨rfl, Nat.le_of_ble_eq_true rfl⟩ rfl (Nat.le_of_ble_eq_true rfl) rfl dX1_faultAt_1 ?_
  refine tr_V.if_eq (tgt := 9) dX1_faultAt_4 (by decide) ?_ ?_
  · refine tr_V.iload_n (i := 1) dX1_faultAt_9 rfl rfl ?_
    refine tr_V.if_lt (tgt := 21) dX1_faultAt_10 (by decide) ?_ ?_
    · refine tr_V.iconst (v := (2 : Int32)) dX1_faultAt_21 (by decide) ?_
      refine tr_V.goto (tgt := 26) dX1_faultAt_22 (by decide) ?_
      exact tr_V.iret dX1_faultAt_26 rfl (fun h => h)
    · refine tr_V.iload_n (i := 1) dX1_faultAt_13 rfl rfl ?_
      refine tr_V.aload_n (i := 0) dX1_faultAt_14 rfl rfl ?_
      refine tr_V.getI fl_X1_9 (shL ho) rfl dX1_faultAt_15 ?_
      refine tr_V.icmp_lt (tgt := 25) dX1_faultAt_18 (by decide) ?_ ?_
      · refine tr_V.iconst (v := (0 : Int32)) dX1_faultAt_25 (by decide) ?_
        exact tr_V.iret dX1_faultAt_26 rfl (fun h => h)
      · refine tr_V.iconst (v := (2 : Int32)) dX1_faultAt_21 (by decide) ?_
        refine tr_V.goto (tgt := 26) dX1_faultAt_22 (by decide) ?_
        exact tr_V.iret dX1_faultAt_26 rfl (fun h => h)
  · refine tr_V.iconst (v := (1 : Int32)) dX1_faultAt_7 (by decide) ?_
    exact tr_V.iret dX1_faultAt_8 rfl (fun h => h)
abbrev xX1_holdsRun : tr_X := (cX1_holdsRun, 3, RX1, (some .boolean), 1, shC, 81)
theorem cw_X1_holdsRun : Cond.code yX1_holdsRun cX1_holdsRun 3 (some .boolean) ∈ tr_tbl := tr_in 435 (by decide +kernel) rfl
theorem yk_X1_holdsRun : tr_yk yX1_holdsRun (xX1_holdsRun) 2 := ⟨cw_X1_holdsRun, in_X1, ⟨by decide +kernel, by decide +kernel, by decide +kernel⟩, Nat.le_of_ble_eq_true rfl⟩
theorem iv_X1_holdsRun : Cond.instanceMethod yX1_holdsRun ∈ tr_tbl ∧ Cond.selects (yX1_holdsRun).cls yX1_holdsRun yX1_holdsRun ∈ tr_tbl := ⟨tr_in 433 (by decide +kernel) rfl, tr_in 434 (by decide +kernel) rfl⟩
def mX1_holdsRun' (o : Nat) (p1 : Int32) (p2 : Int32) (M : tr_M) : Option Int32 :=
  if p1 < 0 then (
    some (0 : Int32)
  ) else (
    if ((M.1 o 1) - p2) < p1 then (
      some (0 : Int32)
    ) else (
      some (1 : Int32)
    )
  )
def mX1_holdsRun (o : Nat) (p1 : Int32) (p2 : Int32) (M : tr_M) : Int32 :=
  if p1 < 0 then (
    (0 : Int32)
  ) else (
    if ((M.1 o 1) - p2) < p1 then (
      (0 : Int32)
    ) else (
      (1 : Int32)
    )
  )
theorem mX1_holdsRun_eq (o : Nat) (p1 : Int32) (p2 : Int32) (M : tr_M) : mX1_holdsRun' o p1 p2 M = some (mX1_holdsRun o p1 p2 M) := by
  unfold mX1_holdsRun' mX1_holdsRun
  repeat' split
  all_goals rfl
set_option maxRecDepth 100000 in
set_option maxHeartbeats 4000000 in
theorem C_X1_holdsRun (o : Nat) (ho : tr_isLp o) (p1 : Int32) (p2 : Int32) (M : tr_M) : tr_I yX1_holdsRun (xX1_holdsRun) [.ref o, .int p1, .int p2] M (some (.int (mX1_holdsRun o p1 p2 M))) M := by
  refine tr_I.of (Z := fun q : Int32 => (some (.int (mX1_holdsRun o p1 p2 M)) : Option Value) = some (.int q) ∧ M = M) pn_X1 rfl gdC (Nat.le_of_ble_eq_true rfl) (fun Wt => ?_) (mX1_holdsRun_eq o p1 p2 M) ⟨rfl, rfl⟩
  unfold mX1_holdsRun'
  refine tr_V.iload_n (i := 1) dX1_holdsRun_0 rfl rfl ?_
  refine tr_V.if_lt (tgt := 18) dX1_holdsRun_1 (by decide) ?_ ?_
  · refine tr_V.iconst (v := (0 : Int32)) dX1_holdsRun_18 (by decide) ?_
    exact tr_V.zret (by decide) dX1_holdsRun_19 rfl (fun h => h)
  · refine tr_V.iload_n (i := 1) dX1_holdsRun_4 rfl rfl ?_
    refine tr_V.aload_n (i := 0) dX1_holdsRun_5 rfl rfl ?_
    refine tr_V.getI fl_X1_9 (shL ho) rfl dX1_holdsRun_6 ?_
    refine tr_V.iload_n (i := 2) dX1_holdsRun_9 rfl rfl ?_
    refine tr_V.isub dX1_holdsRun_10 ?_
    refine tr_V.icmp_gt (tgt := 18) dX1_holdsRun_11 (by decide) ?_ ?_
    · refine tr_V.iconst (v := (0 : Int32)) dX1_holdsRun_18 (by decide) ?_
      exact tr_V.zret (by decide) dX1_holdsRun_19 rfl (fun h => h)
    · refine tr_V.iconst (v := (1 : Int32)) dX1_holdsRun_14 (by decide) ?_
      refine tr_V.goto (tgt := 19) dX1_holdsRun_15 (by decide) ?_
      exact tr_V.zret (by decide) dX1_holdsRun_19 rfl (fun h => h)
abbrev xX2_keep : tr_X := (cX2_keep, 3, RX2, (Option.none : Option Jvm.ClassFile.FieldType), 1, shC, 81)
theorem cw_X2_keep : Cond.code yX2_keep cX2_keep 3 (Option.none : Option Jvm.ClassFile.FieldType) ∈ tr_tbl := tr_in 773 (by decide +kernel) rfl
theorem yk_X2_keep : tr_yk yX2_keep (xX2_keep) 2 := ⟨cw_X2_keep, in_X2, ⟨by decide +kernel, by decide +kernel, by decide +kernel⟩, Nat.le_of_ble_eq_true rfl⟩
theorem iv_X2_keep : Cond.instanceMethod yX2_keep ∈ tr_tbl ∧ Cond.selects (yX2_keep).cls yX2_keep yX2_keep ∈ tr_tbl := ⟨tr_in 772 (by decide +kernel) rfl, tr_in 29 (by decide +kernel) rfl⟩
def mX2_keep (p1 : Int32) (p2 : Int32) (M : tr_M) : Option (tr_M) :=
  Option.bind (show Option (tr_M) from
    if p1 < (M.1 24 4) then (
      Option.bind (some (tr_st M 24 4 p1)) (fun M2 =>
      Option.bind (some (tr_st M2 24 3 (0 : Int32))) (fun M4 =>
      some M4
      )
      )
    ) else (
      some M
    )
  ) (fun (v1 : tr_M) =>
    if p1 = (v1.1 24 4) then (
      if (v1.1 24 3) < (40320 : Int32) then (
        Option.bind (tr_wr 40320 v1 54 (v1.1 24 3) p2) (fun M6 =>
        Option.bind (some (tr_st M6 24 3 ((M6.1 24 3) + (1 : Int32)))) (fun M8 =>
        some M8
        )
        )
      ) else (
        some v1
      )
    ) else (
      some v1
    )
  )
set_option maxRecDepth 100000 in
set_option maxHeartbeats 4000000 in
theorem C_X2_keep (p1 : Int32) (p2 : Int32) (M M' : tr_M) (h : mX2_keep p1 p2 M = some M') : tr_I yX2_keep (xX2_keep) [.ref 24, .int p1, .int p2] M none M' := by
  refine tr_I.of (Z := fun q : tr_M => (none : Option Value) = none ∧ M' = q) pn_X2 rfl gdC (Nat.le_of_ble_eq_true rfl) (fun Wt => ?_) h ⟨rfl, rfl⟩
  unfold mX2_keep
  refine tr_V.iload_n (i := 1) dX2_keep_0 rfl rfl ?_
  refine tr_V.aload_n (i := 0) dX2_keep_1 rfl rfl ?_
  refine tr_V.getI fl_X2_32 shC_24 rfl dX2_keep_2 ?_
  refine tr_V.seq (τ := tr_M) (pc' := 18) (L := fun v1 => [(0, some (.ref 24)), (1, some (.int p1)), (2, some (.int p2))]) (S := fun v1 => []) (Mf := fun v1 => v1) ?_ ?_
  · refine tr_V.icmp_ge (tgt := 18) dX2_keep_5 (by decide) ?_ ?_
    · refine tr_V.aload_n (i := 0) dX2_keep_8 rfl rfl ?_
      refine tr_V.iload_n (i := 1) dX2_keep_9 rfl rfl ?_
      refine tr_V.bd (fun M2 h3 => ?_)
      refine tr_V.putI fl_X2_32 shC_24 rfl dX2_keep_10 h3 ?_
      refine tr_V.aload_n (i := 0) dX2_keep_13 rfl rfl ?_
      refine tr_V.iconst (v := (0 : Int32)) dX2_keep_14 (by decide) ?_
      refine tr_V.bd (fun M4 h5 => ?_)
      refine tr_V.putI fl_X2_28 shC_24 rfl dX2_keep_15 h5 ?_
      exact tr_V.to (fun h => h) ⟨rfl, rfl, rfl, trivial⟩
    · exact tr_V.to (fun h => h) ⟨rfl, rfl, rfl, trivial⟩
  · intro v1
    refine tr_V.iload_n (i := 1) dX2_keep_18 rfl rfl ?_
    refine tr_V.aload_n (i := 0) dX2_keep_19 rfl rfl ?_
    refine tr_V.getI fl_X2_32 shC_24 rfl dX2_keep_20 ?_
    refine tr_V.icmp_ne (tgt := 55) dX2_keep_23 (by decide) ?_ ?_
    · refine tr_V.aload_n (i := 0) dX2_keep_26 rfl rfl ?_
      refine tr_V.getI fl_X2_28 shC_24 rfl dX2_keep_27 ?_
      refine tr_V.ldc ct_X2_23 dX2_keep_30 ?_
      refine tr_V.icmp_ge (tgt := 55) dX2_keep_32 (by decide) ?_ ?_
      · refine tr_V.aload_n (i := 0) dX2_keep_35 rfl rfl ?_
        refine tr_V.getR (Nat.succ_pos _) fl_X2_24 shC_24 rfl dX2_keep_36 ?_
        refine tr_V.aload_n (i := 0) dX2_keep_39 rfl rfl ?_
        refine tr_V.getI fl_X2_28 shC_24 rfl dX2_keep_40 ?_
        refine tr_V.iload_n (i := 2) dX2_keep_43 rfl rfl ?_
        refine tr_V.bd (fun M6 h7 => ?_)
        refine tr_V.iast h7 shC_54 dX2_keep_44 ?_
        refine tr_V.aload_n (i := 0) dX2_keep_45 rfl rfl ?_
        refine tr_V.dup rfl dX2_keep_46 ?_
        refine tr_V.getI fl_X2_28 shC_24 rfl dX2_keep_47 ?_
        refine tr_V.iconst (v := (1 : Int32)) dX2_keep_50 (by decide) ?_
        refine tr_V.iadd dX2_keep_51 ?_
        refine tr_V.bd (fun M8 h9 => ?_)
        refine tr_V.putI fl_X2_28 shC_24 rfl dX2_keep_52 h9 ?_
        exact tr_V.vret dX2_keep_55 rfl (fun h => h)
      · exact tr_V.vret dX2_keep_55 rfl (fun h => h)
    · exact tr_V.vret dX2_keep_55 rfl (fun h => h)
abbrev xX4_stateOf : tr_X := (cX4_stateOf, 2, RX4, (some .int), 1, shC, 81)
theorem cw_X4_stateOf : Cond.code yX4_stateOf cX4_stateOf 2 (some .int) ∈ tr_tbl := tr_in 733 (by decide +kernel) rfl
theorem yk_X4_stateOf : tr_yk yX4_stateOf (xX4_stateOf) 2 := ⟨cw_X4_stateOf, in_X4, ⟨by decide +kernel, by decide +kernel, by decide +kernel⟩, Nat.le_of_ble_eq_true rfl⟩
theorem sc_X4_stateOf : Cond.static yX4_stateOf ∈ tr_tbl := tr_in 732 (by decide +kernel) rfl
def mX4_stateOf' (p0 : Int32) (p1 : Int32) : Option Int32 :=
  some ((p0 * (10 : Int32)) + p1)
def mX4_stateOf (p0 : Int32) (p1 : Int32) : Int32 :=
  ((p0 * (10 : Int32)) + p1)
theorem mX4_stateOf_eq (p0 : Int32) (p1 : Int32) : mX4_stateOf' p0 p1 = some (mX4_stateOf p0 p1) := by
  unfold mX4_stateOf' mX4_stateOf
  rfl
set_option maxRecDepth 100000 in
set_option maxHeartbeats 4000000 in
theorem C_X4_stateOf (p0 : Int32) (p1 : Int32) (M : tr_M) : tr_I yX4_stateOf (xX4_stateOf) [.int p0, .int p1] M (some (.int (mX4_stateOf p0 p1))) M := by
  refine tr_I.of (Z := fun q : Int32 => (some (.int (mX4_stateOf p0 p1)) : Option Value) = some (.int q) ∧ M = M) pn_X4 rfl gdC (Nat.le_of_ble_eq_true rfl) (fun Wt => ?_) (mX4_stateOf_eq p0 p1) ⟨rfl, rfl⟩
  unfold mX4_stateOf'
  refine tr_V.iload_n (i := 0) dX4_stateOf_0 rfl rfl ?_
  refine tr_V.bipush (v := (10 : Int32)) dX4_stateOf_1 (by decide) ?_
  refine tr_V.imul dX4_stateOf_3 ?_
  refine tr_V.iload_n (i := 1) dX4_stateOf_4 rfl rfl ?_
  refine tr_V.iadd dX4_stateOf_5 ?_
  exact tr_V.iret dX4_stateOf_6 rfl (fun h => h)
abbrev xX4_nextInLeast : tr_X := (cX4_nextInLeast, 3, RX4, (some .int), 2, shC, 81)
theorem cw_X4_nextInLeast : Cond.code yX4_nextInLeast cX4_nextInLeast 3 (some .int) ∈ tr_tbl := tr_in 777 (by decide +kernel) rfl
theorem yk_X4_nextInLeast : tr_yk yX4_nextInLeast (xX4_nextInLeast) 2 := ⟨cw_X4_nextInLeast, in_X4, ⟨by decide +kernel, by decide +kernel, by decide +kernel⟩, Nat.le_of_ble_eq_true rfl⟩
theorem iv_X4_nextInLeast : Cond.instanceMethod yX4_nextInLeast ∈ tr_tbl ∧ Cond.selects (yX4_nextInLeast).cls yX4_nextInLeast yX4_nextInLeast ∈ tr_tbl := ⟨tr_in 775 (by decide +kernel) rfl, tr_in 776 (by decide +kernel) rfl⟩
def mX4_nextInLeast (p1 : Int32) (p2 : Int32) (M : tr_M) : Option (Int32) :=
  Option.bind (tr_rd 10240 M 49 (mX4_stateOf p1 p2)) (fun a3 =>
  some a3
  )
set_option maxRecDepth 100000 in
set_option maxHeartbeats 4000000 in
theorem C_X4_nextInLeast (p1 : Int32) (p2 : Int32) (M : tr_M) (r : Int32) (h : mX4_nextInLeast p1 p2 M = some r) : tr_I yX4_nextInLeast (xX4_nextInLeast) [.ref 25, .int p1, .int p2] M (some (.int r)) M := by
  refine tr_I.of (Z := fun q : Int32 => (some (.int r) : Option Value) = some (.int q) ∧ M = M) pn_X4 rfl gdC (Nat.le_of_ble_eq_true rfl) (fun Wt => ?_) h ⟨rfl, rfl⟩
  unfold mX4_nextInLeast
  refine tr_V.aload_n (i := 0) dX4_nextInLeast_0 rfl rfl ?_
  refine tr_V.getR (Nat.succ_pos _) fl_X4_31 shC_25 rfl dX4_nextInLeast_1 ?_
  refine tr_V.iload_n (i := 1) dX4_nextInLeast_4 rfl rfl ?_
  refine tr_V.iload_n (i := 2) dX4_nextInLeast_5 rfl rfl ?_
  refine tr_V.callS (C_X4_stateOf p1 p2 M) yk_X4_stateOf sc_X4_stateOf ml_X4_89 ⟨rfl, Nat.le_of_ble_eq_true rfl⟩ rfl (Nat.le_of_ble_eq_true rfl) rfl dX4_nextInLeast_6 ?_
  refine tr_V.bd (fun a3 h4 => ?_)
  refine tr_V.iald h4 shC_49 dX4_nextInLeast_9 ?_
  exact tr_V.iret dX4_nextInLeast_10 rfl (fun h => h)
abbrev xJ6_bitCount_0f7a4 (sh : Nat → tr_S) (N : Nat) : tr_X := (cJ6_bitCount_0f7a4, 1, RJ6, (some .int), 1, sh, N)
theorem cw_J6_bitCount_0f7a4 : Cond.code yJ6_bitCount_0f7a4 cJ6_bitCount_0f7a4 1 (some .int) ∈ tr_tbl := tr_in 701 (by decide +kernel) rfl
theorem yk_J6_bitCount_0f7a4 {sh : Nat → tr_S} {N : Nat} : tr_yk yJ6_bitCount_0f7a4 (xJ6_bitCount_0f7a4 sh N) 1 := ⟨cw_J6_bitCount_0f7a4, in_J6, ⟨by decide +kernel, by decide +kernel, by decide +kernel⟩, Nat.le_of_ble_eq_true rfl⟩
theorem sc_J6_bitCount_0f7a4 : Cond.static yJ6_bitCount_0f7a4 ∈ tr_tbl := tr_in 700 (by decide +kernel) rfl
def mJ6_bitCount_0f7a4 (p0 : Int32) : Option (Int32) :=
  Option.bind (some (p0 - (((p0.toUInt32 >>> ((1 : Int32).toUInt32 &&& Int32.toUInt32 31)).toInt32) &&& (1431655765 : Int32)))) (fun x1 =>
  Option.bind (some ((x1 &&& (858993459 : Int32)) + (((x1.toUInt32 >>> ((2 : Int32).toUInt32 &&& Int32.toUInt32 31)).toInt32) &&& (858993459 : Int32)))) (fun x3 =>
  Option.bind (some ((x3 + ((x3.toUInt32 >>> ((4 : Int32).toUInt32 &&& Int32.toUInt32 31)).toInt32)) &&& (252645135 : Int32))) (fun x5 =>
  Option.bind (some (x5 + ((x5.toUInt32 >>> ((8 : Int32).toUInt32 &&& Int32.toUInt32 31)).toInt32))) (fun x7 =>
  Option.bind (some (x7 + ((x7.toUInt32 >>> ((16 : Int32).toUInt32 &&& Int32.toUInt32 31)).toInt32))) (fun x9 =>
  some (x9 &&& (63 : Int32))
  )
  )
  )
  )
  )
set_option maxRecDepth 100000 in
set_option maxHeartbeats 4000000 in
theorem C_J6_bitCount_0f7a4 (sh : Nat → tr_S) (N : Nat) (hg : tr_good sh N) (p0 : Int32) (M : tr_M) (r : Int32) (h : mJ6_bitCount_0f7a4 p0 = some r) : tr_I yJ6_bitCount_0f7a4 (xJ6_bitCount_0f7a4 sh N) [.int p0] M (some (.int r)) M := by
  refine tr_I.of (Z := fun q : Int32 => (some (.int r) : Option Value) = some (.int q) ∧ M = M) pn_J6 rfl hg (Nat.le_of_ble_eq_true rfl) (fun Wt => ?_) h ⟨rfl, rfl⟩
  unfold mJ6_bitCount_0f7a4
  refine tr_V.iload_n (i := 0) dJ6_bitCount_0f7a4_0 rfl rfl ?_
  refine tr_V.iload_n (i := 0) dJ6_bitCount_0f7a4_1 rfl rfl ?_
  refine tr_V.iconst (v := (1 : Int32)) dJ6_bitCount_0f7a4_2 (by decide) ?_
  refine tr_V.iushr dJ6_bitCount_0f7a4_3 ?_
  refine tr_V.ldcw ct_J6_265 dJ6_bitCount_0f7a4_4 ?_
  refine tr_V.iand dJ6_bitCount_0f7a4_7 ?_
  refine tr_V.isub dJ6_bitCount_0f7a4_8 ?_
  refine tr_V.bd (fun x1 h2 => ?_)
  refine tr_V.nmI h2 ?_
  refine tr_V.istore_n (i := 0) dJ6_bitCount_0f7a4_9 rfl (Nat.le_of_ble_eq_true rfl) rfl ?_
  refine tr_V.iload_n (i := 0) dJ6_bitCount_0f7a4_10 rfl rfl ?_
  refine tr_V.ldcw ct_J6_266 dJ6_bitCount_0f7a4_11 ?_
  refine tr_V.iand dJ6_bitCount_0f7a4_14 ?_
  refine tr_V.iload_n (i := 0) dJ6_bitCount_0f7a4_15 rfl rfl ?_
  refine tr_V.iconst (v := (2 : Int32)) dJ6_bitCount_0f7a4_16 (by decide) ?_
  refine tr_V.iushr dJ6_bitCount_0f7a4_17 ?_
  refine tr_V.ldcw ct_J6_266 dJ6_bitCount_0f7a4_18 ?_
  refine tr_V.iand dJ6_bitCount_0f7a4_21 ?_
  refine tr_V.iadd dJ6_bitCount_0f7a4_22 ?_
  refine tr_V.bd (fun x3 h4 => ?_)
  refine tr_V.nmI h4 ?_
  refine tr_V.istore_n (i := 0) dJ6_bitCount_0f7a4_23 rfl (Nat.le_of_ble_eq_true rfl) rfl ?_
  refine tr_V.iload_n (i := 0) dJ6_bitCount_0f7a4_24 rfl rfl ?_
  refine tr_V.iload_n (i := 0) dJ6_bitCount_0f7a4_25 rfl rfl ?_
  refine tr_V.iconst (v := (4 : Int32)) dJ6_bitCount_0f7a4_26 (by decide) ?_
  refine tr_V.iushr dJ6_bitCount_0f7a4_27 ?_
  refine tr_V.iadd dJ6_bitCount_0f7a4_28 ?_
  refine tr_V.ldcw ct_J6_267 dJ6_bitCount_0f7a4_29 ?_
  refine tr_V.iand dJ6_bitCount_0f7a4_32 ?_
  refine tr_V.bd (fun x5 h6 => ?_)
  refine tr_V.nmI h6 ?_
  refine tr_V.istore_n (i := 0) dJ6_bitCount_0f7a4_33 rfl (Nat.le_of_ble_eq_true rfl) rfl ?_
  refine tr_V.iload_n (i := 0) dJ6_bitCount_0f7a4_34 rfl rfl ?_
  refine tr_V.iload_n (i := 0) dJ6_bitCount_0f7a4_35 rfl rfl ?_
  refine tr_V.bipush (v := (8 : Int32)) dJ6_bitCount_0f7a4_36 (by decide) ?_
  refine tr_V.iushr dJ6_bitCount_0f7a4_38 ?_
  refine tr_V.iadd dJ6_bitCount_0f7a4_39 ?_
  refine tr_V.bd (fun x7 h8 => ?_)
  refine tr_V.nmI h8 ?_
  refine tr_V.istore_n (i := 0) dJ6_bitCount_0f7a4_40 rfl (Nat.le_of_ble_eq_true rfl) rfl ?_
  refine tr_V.iload_n (i := 0) dJ6_bitCount_0f7a4_41 rfl rfl ?_
  refine tr_V.iload_n (i := 0) dJ6_bitCount_0f7a4_42 rfl rfl ?_
  refine tr_V.bipush (v := (16 : Int32)) dJ6_bitCount_0f7a4_43 (by decide) ?_
  refine tr_V.iushr dJ6_bitCount_0f7a4_45 ?_
  refine tr_V.iadd dJ6_bitCount_0f7a4_46 ?_
  refine tr_V.bd (fun x9 h10 => ?_)
  refine tr_V.nmI h10 ?_
  refine tr_V.istore_n (i := 0) dJ6_bitCount_0f7a4_47 rfl (Nat.le_of_ble_eq_true rfl) rfl ?_
  refine tr_V.iload_n (i := 0) dJ6_bitCount_0f7a4_48 rfl rfl ?_
  refine tr_V.bipush (v := (63 : Int32)) dJ6_bitCount_0f7a4_49 (by decide) ?_
  refine tr_V.iand dJ6_bitCount_0f7a4_51 ?_
  exact tr_V.iret dJ6_bitCount_0f7a4_52 rfl (fun h => h)
abbrev xX2_reachAtLeast : tr_X := (cX2_reachAtLeast, 6, RX2, (some .int), 2, shC, 81)
theorem cw_X2_reachAtLeast : Cond.code yX2_reachAtLeast cX2_reachAtLeast 6 (some .int) ∈ tr_tbl := tr_in 781 (by decide +kernel) rfl
theorem yk_X2_reachAtLeast : tr_yk yX2_reachAtLeast (xX2_reachAtLeast) 2 := ⟨cw_X2_reachAtLeast, in_X2, ⟨by decide +kernel, by decide +kernel, by decide +kernel⟩, Nat.le_of_ble_eq_true rfl⟩
theorem iv_X2_reachAtLeast : Cond.instanceMethod yX2_reachAtLeast ∈ tr_tbl ∧ Cond.selects (yX2_reachAtLeast).cls yX2_reachAtLeast yX2_reachAtLeast ∈ tr_tbl := ⟨tr_in 780 (by decide +kernel) rfl, tr_in 30 (by decide +kernel) rfl⟩
def mX2_reachAtLeast_l5 (p1 : Int32) (p2 : Int32) (M : tr_M) (s1 : Int32 × Int32) : Option ((Int32 × Int32) ⊕ (Int32)) :=
  if s1.2 < (M.1 26 0) then (
    Option.bind (tr_rd 10 M 38 s1.2) (fun a2 =>
    if ((p1 >>> (s1.2 &&& 31)) &&& (1 : Int32)) = 0 then (
      some (.inl (s1.1, (s1.2 + (1 : Int32))))
    ) else (
      if (a2 &&& (p1 ^^^ (-1 : Int32))) = 0 then (
        some (.inl (s1.1, (s1.2 + (1 : Int32))))
      ) else (
        Option.bind (mJ6_bitCount_0f7a4 (a2 &&& (p1 ^^^ (-1 : Int32)))) (fun c4 =>
        Option.bind (tr_rd 10 M 55 s1.2) (fun a6 =>
        some (.inl ((mJ9_max s1.1 ((p2 + c4) - a6)), (s1.2 + (1 : Int32))))
        )
        )
      )
    )
    )
  ) else (
    some (.inr s1.1)
  )
def mX2_reachAtLeast (p1 : Int32) (p2 : Int32) (M : tr_M) : Option (Int32) :=
  tr_loop (mX2_reachAtLeast_l5 p1 p2 M) ((0 : Int32), (0 : Int32))
set_option maxRecDepth 100000 in
set_option maxHeartbeats 4000000 in
theorem C_X2_reachAtLeast (p1 : Int32) (p2 : Int32) (M : tr_M) (r : Int32) (h : mX2_reachAtLeast p1 p2 M = some r) : tr_I yX2_reachAtLeast (xX2_reachAtLeast) [.ref 24, .int p1, .int p2] M (some (.int r)) M := by
  refine tr_I.of (Z := fun q : Int32 => (some (.int r) : Option Value) = some (.int q) ∧ M = M) pn_X2 rfl gdC (Nat.le_of_ble_eq_true rfl) (fun Wt => ?_) h ⟨rfl, rfl⟩
  unfold mX2_reachAtLeast
  refine tr_V.iconst (v := (0 : Int32)) dX2_reachAtLeast_0 (by decide) ?_
  refine tr_V.istore_n (i := 3) dX2_reachAtLeast_1 rfl (Nat.le_of_ble_eq_true rfl) rfl ?_
  refine tr_V.iconst (v := (0 : Int32)) dX2_reachAtLeast_2 (by decide) ?_
  refine tr_V.istore (i := 4) dX2_reachAtLeast_3 (Nat.le_of_ble_eq_true rfl) rfl ?_
  refine tr_V.loop (σ := Int32 × Int32) (step := mX2_reachAtLeast_l5 p1 p2 M) (L := fun s1 => [(0, some (.ref 24)), (1, some (.int p1)), (2, some (.int p2)), (3, some (.int s1.1)), (4, some (.int s1.2))]) (Mf := fun s1 => M) ?_ ((0 : Int32), (0 : Int32)) ⟨rfl, rfl, rfl, rfl, rfl, trivial⟩
  intro s1
  refine tr_V.iload dX2_reachAtLeast_5 rfl ?_
  refine tr_V.aload_n (i := 0) dX2_reachAtLeast_7 rfl rfl ?_
  refine tr_V.getR (Nat.succ_pos _) fl_X2_22 shC_24 rfl dX2_reachAtLeast_8 ?_
  refine tr_V.getI fl_X2_52 shC_26 rfl dX2_reachAtLeast_11 ?_
  refine tr_V.icmp_ge (tgt := 73) dX2_reachAtLeast_14 (by decide) ?_ ?_
  · refine tr_V.aload_n (i := 0) dX2_reachAtLeast_17 rfl rfl ?_
    refine tr_V.getR (Nat.succ_pos _) fl_X2_22 shC_24 rfl dX2_reachAtLeast_18 ?_
    refine tr_V.getR (Nat.succ_pos _) fl_X2_73 shC_26 rfl dX2_reachAtLeast_21 ?_
    refine tr_V.iload dX2_reachAtLeast_24 rfl ?_
    refine tr_V.bd (fun a2 h3 => ?_)
    refine tr_V.iald h3 shC_38 dX2_reachAtLeast_26 ?_
    refine tr_V.iload_n (i := 1) dX2_reachAtLeast_27 rfl rfl ?_
    refine tr_V.iconst (v := (-1 : Int32)) dX2_reachAtLeast_28 (by decide) ?_
    refine tr_V.ixor dX2_reachAtLeast_29 ?_
    refine tr_V.iand dX2_reachAtLeast_30 ?_
    refine tr_V.istore (i := 5) dX2_reachAtLeast_31 (Nat.le_of_ble_eq_true rfl) rfl ?_
    refine tr_V.iload_n (i := 1) dX2_reachAtLeast_33 rfl rfl ?_
    refine tr_V.iload dX2_reachAtLeast_34 rfl ?_
    refine tr_V.ishr dX2_reachAtLeast_36 ?_
    refine tr_V.iconst (v := (1 : Int32)) dX2_reachAtLeast_37 (by decide) ?_
    refine tr_V.iand dX2_reachAtLeast_38 ?_
    refine tr_V.if_eq (tgt := 67) dX2_reachAtLeast_39 (by decide) ?_ ?_
    · refine tr_V.iinc (cst := (1 : Int32)) dX2_reachAtLeast_67 rfl (by decide) rfl ?_
      refine tr_V.goto (tgt := 5) dX2_reachAtLeast_70 (by decide) ?_
      exact tr_V.to (fun h => h) ⟨rfl, rfl, rfl, rfl, rfl, trivial⟩
    · refine tr_V.iload dX2_reachAtLeast_42 rfl ?_
      refine tr_V.if_eq (tgt := 67) dX2_reachAtLeast_44 (by decide) ?_ ?_
      · refine tr_V.iinc (cst := (1 : Int32)) dX2_reachAtLeast_67 rfl (by decide) rfl ?_
        refine tr_V.goto (tgt := 5) dX2_reachAtLeast_70 (by decide) ?_
        exact tr_V.to (fun h => h) ⟨rfl, rfl, rfl, rfl, rfl, trivial⟩
      · refine tr_V.iload_n (i := 3) dX2_reachAtLeast_47 rfl rfl ?_
        refine tr_V.iload_n (i := 2) dX2_reachAtLeast_48 rfl rfl ?_
        refine tr_V.iload dX2_reachAtLeast_49 rfl ?_
        refine tr_V.bd (fun c4 h5 => ?_)
        refine tr_V.callS (C_J6_bitCount_0f7a4 shC 81 gdC (a2 &&& (p1 ^^^ (-1 : Int32))) M _ h5) yk_J6_bitCount_0f7a4 sc_J6_bitCount_0f7a4 ml_X2_76 ⟨rfl, Nat.le_of_ble_eq_true rfl⟩ rfl (Nat.le_of_ble_eq_true rfl) rfl dX2_reachAtLeast_51 ?_
        refine tr_V.iadd dX2_reachAtLeast_54 ?_
        refine tr_V.aload_n (i := 0) dX2_reachAtLeast_55 rfl rfl ?_
        refine tr_V.getR (Nat.succ_pos _) fl_X2_41 shC_24 rfl dX2_reachAtLeast_56 ?_
        refine tr_V.iload dX2_reachAtLeast_59 rfl ?_
        refine tr_V.bd (fun a6 h7 => ?_)
        refine tr_V.iald h7 shC_55 dX2_reachAtLeast_61 ?_
        refine tr_V.isub dX2_reachAtLeast_62 ?_
        refine tr_V.mmax ml_X2_68 w_mmaxS in_J9 w_mmaxC (Nat.le_of_ble_eq_true rfl) (Nat.le_of_ble_eq_true rfl) dX2_reachAtLeast_63 ?_
        refine tr_V.istore_n (i := 3) dX2_reachAtLeast_66 rfl (Nat.le_of_ble_eq_true rfl) rfl ?_
        refine tr_V.iinc (cst := (1 : Int32)) dX2_reachAtLeast_67 rfl (by decide) rfl ?_
        refine tr_V.goto (tgt := 5) dX2_reachAtLeast_70 (by decide) ?_
        exact tr_V.to (fun h => h) ⟨rfl, rfl, rfl, rfl, rfl, trivial⟩
  · refine tr_V.iload_n (i := 3) dX2_reachAtLeast_73 rfl rfl ?_
    exact tr_V.iret dX2_reachAtLeast_74 rfl (fun h => h)
abbrev xX2_step (d : Nat) : tr_X := (cX2_step, 9, RX2, (Option.none : Option Jvm.ClassFile.FieldType), 3 + d, shC, 81)
theorem cw_X2_step : Cond.code yX2_step cX2_step 9 (Option.none : Option Jvm.ClassFile.FieldType) ∈ tr_tbl := tr_in 769 (by decide +kernel) rfl
theorem yk_X2_step {d : Nat} : tr_yk yX2_step (xX2_step d) 5 := ⟨cw_X2_step, in_X2, ⟨by decide +kernel, by decide +kernel, by decide +kernel⟩, Nat.le_of_ble_eq_true rfl⟩
theorem iv_X2_step : Cond.instanceMethod yX2_step ∈ tr_tbl ∧ Cond.selects (yX2_step).cls yX2_step yX2_step ∈ tr_tbl := ⟨tr_in 768 (by decide +kernel) rfl, tr_in 28 (by decide +kernel) rfl⟩
def mX2_step_l40 (p1 : Int32) (p2 : Int32) (p4 : Int32) (p5 : Int32) (rec : Int32 → Int32 → Int32 → Int32 → Int32 → tr_M → Option tr_M) (c2 : Int32) (s4 : Int32 × tr_M) : Option ((Int32 × tr_M) ⊕ ((tr_M) ⊕ (tr_M))) :=
  if s4.1 < (s4.2.1 26 0) then (
    if ((c2 >>> (s4.1 &&& 31)) &&& (1 : Int32)) = 0 then (
      some (.inl ((s4.1 + (1 : Int32)), s4.2))
    ) else (
      Option.bind (tr_wr 10 s4.2 55 s4.1 p1) (fun M5 =>
      Option.bind (mX2_reachAtLeast (p2 ||| ((1 : Int32) <<< (s4.1 &&& 31))) p1 M5) (fun c7 =>
      if (M5.1 24 4) < (mJ9_max p4 c7) then (
        some (.inl ((s4.1 + (1 : Int32)), M5))
      ) else (
        Option.bind (rec (p1 + (1 : Int32)) (p2 ||| ((1 : Int32) <<< (s4.1 &&& 31))) s4.1 (mJ9_max p4 c7) ((p5 <<< ((3 : Int32) &&& 31)) ||| s4.1) M5) (fun M9 =>
        some (.inl ((s4.1 + (1 : Int32)), M9))
        )
      )
      )
      )
    )
  ) else (
    some (.inr (.inr s4.2))
  )
def mX2_step : Nat → Int32 → Int32 → Int32 → Int32 → Int32 → tr_M → Option tr_M
  | 0, _, _, _, _, _, _ => none
  | d + 1, p1, p2, p3, p4, p5, M =>
    Option.bind (show Option ((tr_M) ⊕ (tr_M)) from
      if p1 < (M.1 26 0) then (
        if p1 < (8 : Int32) then (
          Option.bind (mX4_nextInLeast p2 p3 M) (fun c2 =>
          tr_loop (mX2_step_l40 p1 p2 p4 p5 (mX2_step d) c2) ((0 : Int32), M)
          )
        ) else (
          some (.inl M)
        )
      ) else (
        some (.inl M)
      )
    ) (tr_el (fun (v1 : tr_M) =>
      Option.bind (mX2_keep p4 p5 v1) (fun c11 =>
      some c11
      )
    ))
set_option maxRecDepth 100000 in
set_option maxHeartbeats 4000000 in
theorem C_X2_step : ∀ (d : Nat) (p1 : Int32) (p2 : Int32) (p3 : Int32) (p4 : Int32) (p5 : Int32) (M M' : tr_M), mX2_step d p1 p2 p3 p4 p5 M = some M' → tr_I yX2_step (xX2_step d) [.ref 24, .int p1, .int p2, .int p3, .int p4, .int p5] M none M'
  | 0, _, _, _, _, _, _, _, h => by cases h
  | d + 1, p1, p2, p3, p4, p5, M, M', h => by
    have C_X2_step_ih := C_X2_step d
    refine tr_I.of (Z := fun q : tr_M => (none : Option Value) = none ∧ M' = q) pn_X2 rfl gdC (Nat.le_of_ble_eq_true rfl) (fun Wt => ?_) h ⟨rfl, rfl⟩
    unfold mX2_step
    refine tr_V.iload_n (i := 1) dX2_step_0 rfl rfl ?_
    refine tr_V.aload_n (i := 0) dX2_step_1 rfl rfl ?_
    refine tr_V.getR (Nat.succ_pos _) fl_X2_22 shC_24 rfl dX2_step_2 ?_
    refine tr_V.getI fl_X2_52 shC_26 rfl dX2_step_5 ?_
    refine tr_V.seqE (τ := tr_M) (pc' := 17) (L := fun v1 => [(0, some (.ref 24)), (4, some (.int p4)), (5, some (.int p5))]) (S := fun v1 => []) (Mf := fun v1 => v1) ?_ ?_
    · refine tr_V.icmp_ge (tgt := 17) dX2_step_8 (by decide) ?_ ?_
      · refine tr_V.iload_n (i := 1) dX2_step_11 rfl rfl ?_
        refine tr_V.bipush (v := (8 : Int32)) dX2_step_12 (by decide) ?_
        refine tr_V.icmp_lt (tgt := 26) dX2_step_14 (by decide) ?_ ?_
        · refine tr_V.aload_n (i := 0) dX2_step_26 rfl rfl ?_
          refine tr_V.getR (Nat.succ_pos _) fl_X2_12 shC_24 rfl dX2_step_27 ?_
          refine tr_V.iload_n (i := 2) dX2_step_30 rfl rfl ?_
          refine tr_V.iload_n (i := 3) dX2_step_31 rfl rfl ?_
          refine tr_V.bd (fun c2 h3 => ?_)
          refine tr_V.callV (C_X4_nextInLeast p2 p3 M _ h3) yk_X4_nextInLeast iv_X4_nextInLeast ml_X2_61 shC_25 rfl ⟨rfl, Nat.lt_of_lt_of_le (m := 3) (Nat.le_of_ble_eq_true rfl) (Nat.le_add_right _ _)⟩ rfl (Nat.le_of_ble_eq_true rfl) rfl dX2_step_32 ?_
          refine tr_V.istore (i := 6) dX2_step_35 (Nat.le_of_ble_eq_true rfl) rfl ?_
          refine tr_V.iconst (v := (0 : Int32)) dX2_step_37 (by decide) ?_
          refine tr_V.istore (i := 7) dX2_step_38 (Nat.le_of_ble_eq_true rfl) rfl ?_
          refine tr_V.loop (σ := Int32 × tr_M) (step := mX2_step_l40 p1 p2 p4 p5 (mX2_step d) c2) (L := fun s4 => [(0, some (.ref 24)), (1, some (.int p1)), (2, some (.int p2)), (4, some (.int p4)), (5, some (.int p5)), (6, some (.int c2)), (7, some (.int s4.1))]) (Mf := fun s4 => s4.2) ?_ ((0 : Int32), M) ⟨rfl, rfl, rfl, rfl, rfl, rfl, rfl, trivial⟩
          intro s4
          refine tr_V.iload dX2_step_40 rfl ?_
          refine tr_V.aload_n (i := 0) dX2_step_42 rfl rfl ?_
          refine tr_V.getR (Nat.succ_pos _) fl_X2_22 shC_24 rfl dX2_step_43 ?_
          refine tr_V.getI fl_X2_52 shC_26 rfl dX2_step_46 ?_
          refine tr_V.icmp_ge (tgt := 130) dX2_step_49 (by decide) ?_ ?_
          · refine tr_V.iload dX2_step_52 rfl ?_
            refine tr_V.iload dX2_step_54 rfl ?_
            refine tr_V.ishr dX2_step_56 ?_
            refine tr_V.iconst (v := (1 : Int32)) dX2_step_57 (by decide) ?_
            refine tr_V.iand dX2_step_58 ?_
            refine tr_V.if_ne (tgt := 65) dX2_step_59 (by decide) ?_ ?_
            · refine tr_V.goto (tgt := 124) dX2_step_62 (by decide) ?_
              refine tr_V.iinc (cst := (1 : Int32)) dX2_step_124 rfl (by decide) rfl ?_
              refine tr_V.goto (tgt := 40) dX2_step_127 (by decide) ?_
              exact tr_V.to (fun h => h) ⟨rfl, rfl, rfl, rfl, rfl, rfl, rfl, trivial⟩
            · refine tr_V.aload_n (i := 0) dX2_step_65 rfl rfl ?_
              refine tr_V.getR (Nat.succ_pos _) fl_X2_41 shC_24 rfl dX2_step_66 ?_
              refine tr_V.iload dX2_step_69 rfl ?_
              refine tr_V.iload_n (i := 1) dX2_step_71 rfl rfl ?_
              refine tr_V.bd (fun M5 h6 => ?_)
              refine tr_V.iast h6 shC_55 dX2_step_72 ?_
              refine tr_V.iload dX2_step_73 rfl ?_
              refine tr_V.aload_n (i := 0) dX2_step_75 rfl rfl ?_
              refine tr_V.iload_n (i := 2) dX2_step_76 rfl rfl ?_
              refine tr_V.iconst (v := (1 : Int32)) dX2_step_77 (by decide) ?_
              refine tr_V.iload dX2_step_78 rfl ?_
              refine tr_V.ishl dX2_step_80 ?_
              refine tr_V.ior dX2_step_81 ?_
              refine tr_V.iload_n (i := 1) dX2_step_82 rfl rfl ?_
              refine tr_V.bd (fun c7 h8 => ?_)
              refine tr_V.callV (C_X2_reachAtLeast (p2 ||| ((1 : Int32) <<< (s4.1 &&& 31))) p1 M5 _ h8) yk_X2_reachAtLeast iv_X2_reachAtLeast ml_X2_65 shC_24 rfl ⟨rfl, Nat.lt_of_lt_of_le (m := 3) (Nat.le_of_ble_eq_true rfl) (Nat.le_add_right _ _)⟩ rfl (Nat.le_of_ble_eq_true rfl) rfl dX2_step_83 ?_
              refine tr_V.mmax ml_X2_68 w_mmaxS in_J9 w_mmaxC (Nat.le_of_ble_eq_true rfl) (Nat.le_of_ble_eq_true rfl) dX2_step_86 ?_
              refine tr_V.istore (i := 8) dX2_step_89 (Nat.le_of_ble_eq_true rfl) rfl ?_
              refine tr_V.iload dX2_step_91 rfl ?_
              refine tr_V.aload_n (i := 0) dX2_step_93 rfl rfl ?_
              refine tr_V.getI fl_X2_32 shC_24 rfl dX2_step_94 ?_
              refine tr_V.icmp_gt (tgt := 124) dX2_step_97 (by decide) ?_ ?_
              · refine tr_V.iinc (cst := (1 : Int32)) dX2_step_124 rfl (by decide) rfl ?_
                refine tr_V.goto (tgt := 40) dX2_step_127 (by decide) ?_
                exact tr_V.to (fun h => h) ⟨rfl, rfl, rfl, rfl, rfl, rfl, rfl, trivial⟩
              · refine tr_V.aload_n (i := 0) dX2_step_100 rfl rfl ?_
                refine tr_V.iload_n (i := 1) dX2_step_101 rfl rfl ?_
                refine tr_V.iconst (v := (1 : Int32)) dX2_step_102 (by decide) ?_
                refine tr_V.iadd dX2_step_103 ?_
                refine tr_V.iload_n (i := 2) dX2_step_104 rfl rfl ?_
                refine tr_V.iconst (v := (1 : Int32)) dX2_step_105 (by decide) ?_
                refine tr_V.iload dX2_step_106 rfl ?_
                refine tr_V.ishl dX2_step_108 ?_
                refine tr_V.ior dX2_step_109 ?_
                refine tr_V.iload dX2_step_110 rfl ?_
                refine tr_V.iload dX2_step_112 rfl ?_
                refine tr_V.iload dX2_step_114 rfl ?_
                refine tr_V.iconst (v := (3 : Int32)) dX2_step_116 (by decide) ?_
                refine tr_V.ishl dX2_step_117 ?_
                refine tr_V.iload dX2_step_118 rfl ?_
                refine tr_V.ior dX2_step_120 ?_
                refine tr_V.bd (fun M9 h10 => ?_)
                refine tr_V.callV (C_X2_step_ih (p1 + (1 : Int32)) (p2 ||| ((1 : Int32) <<< (s4.1 &&& 31))) s4.1 (mJ9_max p4 c7) ((p5 <<< ((3 : Int32) &&& 31)) ||| s4.1) _ _ h10) yk_X2_step iv_X2_step ml_X2_48 shC_24 rfl ⟨rfl, Nat.lt_succ_self _⟩ rfl (Nat.le_of_ble_eq_true rfl) rfl dX2_step_121 ?_
                refine tr_V.iinc (cst := (1 : Int32)) dX2_step_124 rfl (by decide) rfl ?_
                refine tr_V.goto (tgt := 40) dX2_step_127 (by decide) ?_
                exact tr_V.to (fun h => h) ⟨rfl, rfl, rfl, rfl, rfl, rfl, rfl, trivial⟩
          · exact tr_V.vret dX2_step_130 rfl (fun h => h)
        · exact tr_V.to (fun h => h) ⟨rfl, rfl, rfl, trivial⟩
      · exact tr_V.to (fun h => h) ⟨rfl, rfl, rfl, trivial⟩
    · intro v1
      refine tr_V.aload_n (i := 0) dX2_step_17 rfl rfl ?_
      refine tr_V.iload dX2_step_18 rfl ?_
      refine tr_V.iload dX2_step_20 rfl ?_
      refine tr_V.bd (fun c11 h12 => ?_)
      refine tr_V.callV (C_X2_keep p4 p5 v1 _ h12) yk_X2_keep iv_X2_keep ml_X2_57 shC_24 rfl ⟨rfl, Nat.lt_of_lt_of_le (m := 3) (Nat.le_of_ble_eq_true rfl) (Nat.le_add_right _ _)⟩ rfl (Nat.le_of_ble_eq_true rfl) rfl dX2_step_22 ?_
      exact tr_V.vret dX2_step_25 rfl (fun h => h)
abbrev xX2_go : tr_X := (cX2_go, 1, RX2, (Option.none : Option Jvm.ClassFile.FieldType), 24, shC, 81)
theorem cw_X2_go : Cond.code yX2_go cX2_go 1 (Option.none : Option Jvm.ClassFile.FieldType) ∈ tr_tbl := tr_in 764 (by decide +kernel) rfl
theorem yk_X2_go : tr_yk yX2_go (xX2_go) 0 := ⟨cw_X2_go, in_X2, ⟨by decide +kernel, by decide +kernel, by decide +kernel⟩, Nat.le_of_ble_eq_true rfl⟩
theorem iv_X2_go : Cond.instanceMethod yX2_go ∈ tr_tbl ∧ Cond.selects (yX2_go).cls yX2_go yX2_go ∈ tr_tbl := ⟨tr_in 762 (by decide +kernel) rfl, tr_in 763 (by decide +kernel) rfl⟩
def mX2_go  (M : tr_M) : Option (tr_M) :=
  Option.bind (some (tr_st M 24 3 (0 : Int32))) (fun M1 =>
  Option.bind (some (tr_st M1 24 4 (268435456 : Int32))) (fun M3 =>
  Option.bind (mX2_step 12 (0 : Int32) (0 : Int32) (0 : Int32) (0 : Int32) (0 : Int32) M3) (fun c5 =>
  some c5
  )
  )
  )
set_option maxRecDepth 100000 in
set_option maxHeartbeats 4000000 in
theorem C_X2_go  (M M' : tr_M) (h : mX2_go M = some M') : tr_I yX2_go (xX2_go) [.ref 24] M none M' := by
  refine tr_I.of (Z := fun q : tr_M => (none : Option Value) = none ∧ M' = q) pn_X2 rfl gdC (Nat.le_of_ble_eq_true rfl) (fun Wt => ?_) h ⟨rfl, rfl⟩
  unfold mX2_go
  refine tr_V.aload_n (i := 0) dX2_go_0 rfl rfl ?_
  refine tr_V.iconst (v := (0 : Int32)) dX2_go_1 (by decide) ?_
  refine tr_V.bd (fun M1 h2 => ?_)
  refine tr_V.putI fl_X2_28 shC_24 rfl dX2_go_2 h2 ?_
  refine tr_V.aload_n (i := 0) dX2_go_5 rfl rfl ?_
  refine tr_V.ldc ct_X2_47 dX2_go_6 ?_
  refine tr_V.bd (fun M3 h4 => ?_)
  refine tr_V.putI fl_X2_32 shC_24 rfl dX2_go_8 h4 ?_
  refine tr_V.aload_n (i := 0) dX2_go_11 rfl rfl ?_
  refine tr_V.iconst (v := (0 : Int32)) dX2_go_12 (by decide) ?_
  refine tr_V.iconst (v := (0 : Int32)) dX2_go_13 (by decide) ?_
  refine tr_V.iconst (v := (0 : Int32)) dX2_go_14 (by decide) ?_
  refine tr_V.iconst (v := (0 : Int32)) dX2_go_15 (by decide) ?_
  refine tr_V.iconst (v := (0 : Int32)) dX2_go_16 (by decide) ?_
  refine tr_V.bd (fun c5 h6 => ?_)
  refine tr_V.callV (C_X2_step 12 (0 : Int32) (0 : Int32) (0 : Int32) (0 : Int32) (0 : Int32) M3 _ h6) yk_X2_step iv_X2_step ml_X2_48 shC_24 rfl ⟨rfl, Nat.le_of_ble_eq_true rfl⟩ rfl (Nat.le_of_ble_eq_true rfl) rfl dX2_go_17 ?_
  exact tr_V.vret dX2_go_20 rfl (fun h => h)
abbrev xX2_unpack : tr_X := (cX2_unpack, 4, RX2, (Option.none : Option Jvm.ClassFile.FieldType), 1, shC, 81)
theorem cw_X2_unpack : Cond.code yX2_unpack cX2_unpack 4 (Option.none : Option Jvm.ClassFile.FieldType) ∈ tr_tbl := tr_in 810 (by decide +kernel) rfl
theorem yk_X2_unpack : tr_yk yX2_unpack (xX2_unpack) 1 := ⟨cw_X2_unpack, in_X2, ⟨by decide +kernel, by decide +kernel, by decide +kernel⟩, Nat.le_of_ble_eq_true rfl⟩
theorem iv_X2_unpack : Cond.instanceMethod yX2_unpack ∈ tr_tbl ∧ Cond.selects (yX2_unpack).cls yX2_unpack yX2_unpack ∈ tr_tbl := ⟨tr_in 809 (by decide +kernel) rfl, tr_in 32 (by decide +kernel) rfl⟩
def mX2_unpack_l17  (s3 : Int32 × Int32 × tr_M) : Option ((Int32 × Int32 × tr_M) ⊕ (tr_M)) :=
  if s3.2.1 < 0 then (
    some (.inr s3.2.2)
  ) else (
    Option.bind (tr_wr 10 s3.2.2 56 s3.2.1 (s3.1 &&& (7 : Int32))) (fun M4 =>
    Option.bind (some (s3.2.1 + (-1 : Int32))) (fun x6 =>
    some (.inl ((s3.1 >>> ((3 : Int32) &&& 31)), x6, M4))
    )
    )
  )
def mX2_unpack (p1 : Int32) (M : tr_M) : Option (tr_M) :=
  Option.bind (tr_rd 40320 M 54 p1) (fun a1 =>
  tr_loop (mX2_unpack_l17) (a1, ((M.1 26 0) - (1 : Int32)), M)
  )
set_option maxRecDepth 100000 in
set_option maxHeartbeats 4000000 in
theorem C_X2_unpack (p1 : Int32) (M M' : tr_M) (h : mX2_unpack p1 M = some M') : tr_I yX2_unpack (xX2_unpack) [.ref 24, .int p1] M none M' := by
  refine tr_I.of (Z := fun q : tr_M => (none : Option Value) = none ∧ M' = q) pn_X2 rfl gdC (Nat.le_of_ble_eq_true rfl) (fun Wt => ?_) h ⟨rfl, rfl⟩
  unfold mX2_unpack
  refine tr_V.aload_n (i := 0) dX2_unpack_0 rfl rfl ?_
  refine tr_V.getR (Nat.succ_pos _) fl_X2_24 shC_24 rfl dX2_unpack_1 ?_
  refine tr_V.iload_n (i := 1) dX2_unpack_4 rfl rfl ?_
  refine tr_V.bd (fun a1 h2 => ?_)
  refine tr_V.iald h2 shC_54 dX2_unpack_5 ?_
  refine tr_V.istore_n (i := 2) dX2_unpack_6 rfl (Nat.le_of_ble_eq_true rfl) rfl ?_
  refine tr_V.aload_n (i := 0) dX2_unpack_7 rfl rfl ?_
  refine tr_V.getR (Nat.succ_pos _) fl_X2_22 shC_24 rfl dX2_unpack_8 ?_
  refine tr_V.getI fl_X2_52 shC_26 rfl dX2_unpack_11 ?_
  refine tr_V.iconst (v := (1 : Int32)) dX2_unpack_14 (by decide) ?_
  refine tr_V.isub dX2_unpack_15 ?_
  refine tr_V.istore_n (i := 3) dX2_unpack_16 rfl (Nat.le_of_ble_eq_true rfl) rfl ?_
  refine tr_V.loop (σ := Int32 × Int32 × tr_M) (step := mX2_unpack_l17) (L := fun s3 => [(0, some (.ref 24)), (2, some (.int s3.1)), (3, some (.int s3.2.1))]) (Mf := fun s3 => s3.2.2) ?_ (a1, ((M.1 26 0) - (1 : Int32)), M) ⟨rfl, rfl, rfl, trivial⟩
  intro s3
  refine tr_V.iload_n (i := 3) dX2_unpack_17 rfl rfl ?_
  refine tr_V.if_lt (tgt := 41) dX2_unpack_18 (by decide) ?_ ?_
  · exact tr_V.vret dX2_unpack_41 rfl (fun h => h)
  · refine tr_V.aload_n (i := 0) dX2_unpack_21 rfl rfl ?_
    refine tr_V.getR (Nat.succ_pos _) fl_X2_44 shC_24 rfl dX2_unpack_22 ?_
    refine tr_V.iload_n (i := 3) dX2_unpack_25 rfl rfl ?_
    refine tr_V.iload_n (i := 2) dX2_unpack_26 rfl rfl ?_
    refine tr_V.bipush (v := (7 : Int32)) dX2_unpack_27 (by decide) ?_
    refine tr_V.iand dX2_unpack_29 ?_
    refine tr_V.bd (fun M4 h5 => ?_)
    refine tr_V.iast h5 shC_56 dX2_unpack_30 ?_
    refine tr_V.iload_n (i := 2) dX2_unpack_31 rfl rfl ?_
    refine tr_V.iconst (v := (3 : Int32)) dX2_unpack_32 (by decide) ?_
    refine tr_V.ishr dX2_unpack_33 ?_
    refine tr_V.istore_n (i := 2) dX2_unpack_34 rfl (Nat.le_of_ble_eq_true rfl) rfl ?_
    refine tr_V.bd (fun x6 h7 => ?_)
    refine tr_V.iincN (cst := (-1 : Int32)) dX2_unpack_35 rfl (by decide) rfl h7 ?_
    refine tr_V.goto (tgt := 17) dX2_unpack_38 (by decide) ?_
    exact tr_V.to (fun h => h) ⟨rfl, rfl, rfl, trivial⟩
abbrev xX2_value : tr_X := (cX2_value, 1, RX2, (some .int), 1, shC, 81)
theorem cw_X2_value : Cond.code yX2_value cX2_value 1 (some .int) ∈ tr_tbl := tr_in 793 (by decide +kernel) rfl
theorem yk_X2_value : tr_yk yX2_value (xX2_value) 0 := ⟨cw_X2_value, in_X2, ⟨by decide +kernel, by decide +kernel, by decide +kernel⟩, Nat.le_of_ble_eq_true rfl⟩
def mX2_value'  (M : tr_M) : Option Int32 :=
  some (M.1 24 4)
def mX2_value  (M : tr_M) : Int32 :=
  (M.1 24 4)
theorem mX2_value_eq  (M : tr_M) : mX2_value' M = some (mX2_value M) := by
  unfold mX2_value' mX2_value
  rfl
set_option maxRecDepth 100000 in
set_option maxHeartbeats 4000000 in
theorem C_X2_value  (M : tr_M) : tr_I yX2_value (xX2_value) [.ref 24] M (some (.int (mX2_value M))) M := by
  refine tr_I.of (Z := fun q : Int32 => (some (.int (mX2_value M)) : Option Value) = some (.int q) ∧ M = M) pn_X2 rfl gdC (Nat.le_of_ble_eq_true rfl) (fun Wt => ?_) (mX2_value_eq M) ⟨rfl, rfl⟩
  unfold mX2_value'
  refine tr_V.aload_n (i := 0) dX2_value_0 rfl rfl ?_
  refine tr_V.getI fl_X2_32 shC_24 rfl dX2_value_1 ?_
  exact tr_V.iret dX2_value_4 rfl (fun h => h)
abbrev xX2_number : tr_X := (cX2_number, 1, RX2, (some .int), 1, shC, 81)
theorem cw_X2_number : Cond.code yX2_number cX2_number 1 (some .int) ∈ tr_tbl := tr_in 830 (by decide +kernel) rfl
theorem yk_X2_number : tr_yk yX2_number (xX2_number) 0 := ⟨cw_X2_number, in_X2, ⟨by decide +kernel, by decide +kernel, by decide +kernel⟩, Nat.le_of_ble_eq_true rfl⟩
def mX2_number'  (M : tr_M) : Option Int32 :=
  some (M.1 24 3)
def mX2_number  (M : tr_M) : Int32 :=
  (M.1 24 3)
theorem mX2_number_eq  (M : tr_M) : mX2_number' M = some (mX2_number M) := by
  unfold mX2_number' mX2_number
  rfl
set_option maxRecDepth 100000 in
set_option maxHeartbeats 4000000 in
theorem C_X2_number  (M : tr_M) : tr_I yX2_number (xX2_number) [.ref 24] M (some (.int (mX2_number M))) M := by
  refine tr_I.of (Z := fun q : Int32 => (some (.int (mX2_number M)) : Option Value) = some (.int q) ∧ M = M) pn_X2 rfl gdC (Nat.le_of_ble_eq_true rfl) (fun Wt => ?_) (mX2_number_eq M) ⟨rfl, rfl⟩
  unfold mX2_number'
  refine tr_V.aload_n (i := 0) dX2_number_0 rfl rfl ?_
  refine tr_V.getI fl_X2_28 shC_24 rfl dX2_number_1 ?_
  exact tr_V.iret dX2_number_4 rfl (fun h => h)
abbrev xX2_pick : tr_X := (cX2_pick, 3, RX2, (Option.none : Option Jvm.ClassFile.FieldType), 2, shC, 81)
theorem cw_X2_pick : Cond.code yX2_pick cX2_pick 3 (Option.none : Option Jvm.ClassFile.FieldType) ∈ tr_tbl := tr_in 806 (by decide +kernel) rfl
theorem yk_X2_pick : tr_yk yX2_pick (xX2_pick) 2 := ⟨cw_X2_pick, in_X2, ⟨by decide +kernel, by decide +kernel, by decide +kernel⟩, Nat.le_of_ble_eq_true rfl⟩
def mX2_pick (p1 : Int32) (p2 : Nat) (M : tr_M) : Option (tr_M) :=
  Option.bind (mX2_unpack p1 M) (fun c1 =>
  Option.bind (tr_cpy (tr_len shC 56) (tr_len shC p2) c1 56 (0 : Int32) p2 (0 : Int32) (c1.1 26 0)) (fun M3 =>
  some M3
  )
  )
set_option maxRecDepth 100000 in
set_option maxHeartbeats 4000000 in
theorem C_X2_pick (p1 : Int32) (p2 : Nat) (M M' : tr_M) (h : mX2_pick p1 p2 M = some M') : tr_I yX2_pick (xX2_pick) [.ref 24, .int p1, .ref p2] M none M' := by
  refine tr_I.of (Z := fun q : tr_M => (none : Option Value) = none ∧ M' = q) pn_X2 rfl gdC (Nat.le_of_ble_eq_true rfl) (fun Wt => ?_) h ⟨rfl, rfl⟩
  unfold mX2_pick
  refine tr_V.aload_n (i := 0) dX2_pick_0 rfl rfl ?_
  refine tr_V.iload_n (i := 1) dX2_pick_1 rfl rfl ?_
  refine tr_V.bd (fun c1 h2 => ?_)
  refine tr_V.callV (C_X2_unpack p1 M _ h2) yk_X2_unpack iv_X2_unpack ml_X2_82 shC_24 rfl ⟨rfl, Nat.le_of_ble_eq_true rfl⟩ rfl (Nat.le_of_ble_eq_true rfl) rfl dX2_pick_2 ?_
  refine tr_V.aload_n (i := 0) dX2_pick_5 rfl rfl ?_
  refine tr_V.getR (Nat.succ_pos _) fl_X2_44 shC_24 rfl dX2_pick_6 ?_
  refine tr_V.iconst (v := (0 : Int32)) dX2_pick_9 (by decide) ?_
  refine tr_V.aload_n (i := 2) dX2_pick_10 rfl rfl ?_
  refine tr_V.iconst (v := (0 : Int32)) dX2_pick_11 (by decide) ?_
  refine tr_V.aload_n (i := 0) dX2_pick_12 rfl rfl ?_
  refine tr_V.getR (Nat.succ_pos _) fl_X2_22 shC_24 rfl dX2_pick_13 ?_
  refine tr_V.getI fl_X2_52 shC_26 rfl dX2_pick_16 ?_
  refine tr_V.bd (fun M3 h4 => ?_)
  refine tr_V.copy h4 ml_X2_86 w_acN w_acS w_acI (Nat.le_of_ble_eq_true rfl) (Nat.le_of_ble_eq_true rfl) dX2_pick_19 ?_
  exact tr_V.vret dX2_pick_22 rfl (fun h => h)
abbrev xX2_indexOf : tr_X := (cX2_indexOf, 4, RX2, (some .int), 1, shC, 81)
theorem cw_X2_indexOf : Cond.code yX2_indexOf cX2_indexOf 4 (some .int) ∈ tr_tbl := tr_in 843 (by decide +kernel) rfl
theorem yk_X2_indexOf : tr_yk yX2_indexOf (xX2_indexOf) 1 := ⟨cw_X2_indexOf, in_X2, ⟨by decide +kernel, by decide +kernel, by decide +kernel⟩, Nat.le_of_ble_eq_true rfl⟩
def mX2_indexOf_l4 (p1 : Nat) (M : tr_M) (s2 : Int32 × Int32) : Option ((Int32 × Int32) ⊕ (Int32)) :=
  if s2.2 < (M.1 26 0) then (
    Option.bind (tr_rd (tr_len shC p1) M p1 s2.2) (fun a3 =>
    some (.inl (((s2.1 <<< ((3 : Int32) &&& 31)) ||| a3), (s2.2 + (1 : Int32))))
    )
  ) else (
    some (.inr s2.1)
  )
def mX2_indexOf_l31 (M : tr_M) (v1 : Int32) (s5 : Int32) : Option ((Int32) ⊕ (Int32)) :=
  if s5 < (M.1 24 3) then (
    Option.bind (tr_rd 40320 M 54 s5) (fun a6 =>
    if a6 = v1 then (
      some (.inr s5)
    ) else (
      some (.inl (s5 + (1 : Int32)))
    )
    )
  ) else (
    some (.inr (-9 : Int32))
  )
def mX2_indexOf (p1 : Nat) (M : tr_M) : Option (Int32) :=
  Option.bind (show Option (Int32) from
    tr_loop (mX2_indexOf_l4 p1 M) ((0 : Int32), (0 : Int32))
  ) (fun (v1 : Int32) =>
    tr_loop (mX2_indexOf_l31 M v1) (0 : Int32)
  )
set_option maxRecDepth 100000 in
set_option maxHeartbeats 4000000 in
theorem C_X2_indexOf (p1 : Nat) (M : tr_M) (r : Int32) (h : mX2_indexOf p1 M = some r) : tr_I yX2_indexOf (xX2_indexOf) [.ref 24, .ref p1] M (some (.int r)) M := by
  refine tr_I.of (Z := fun q : Int32 => (some (.int r) : Option Value) = some (.int q) ∧ M = M) pn_X2 rfl gdC (Nat.le_of_ble_eq_true rfl) (fun Wt => ?_) h ⟨rfl, rfl⟩
  unfold mX2_indexOf
  refine tr_V.iconst (v := (0 : Int32)) dX2_indexOf_0 (by decide) ?_
  refine tr_V.istore_n (i := 2) dX2_indexOf_1 rfl (Nat.le_of_ble_eq_true rfl) rfl ?_
  refine tr_V.iconst (v := (0 : Int32)) dX2_indexOf_2 (by decide) ?_
  refine tr_V.istore_n (i := 3) dX2_indexOf_3 rfl (Nat.le_of_ble_eq_true rfl) rfl ?_
  refine tr_V.seq (τ := Int32) (pc' := 29) (L := fun v1 => [(0, some (.ref 24)), (2, some (.int v1))]) (S := fun v1 => []) (Mf := fun v1 => M) ?_ ?_
  · refine tr_V.loop (σ := Int32 × Int32) (step := mX2_indexOf_l4 p1 M) (L := fun s2 => [(0, some (.ref 24)), (1, some (.ref p1)), (2, some (.int s2.1)), (3, some (.int s2.2))]) (Mf := fun s2 => M) ?_ ((0 : Int32), (0 : Int32)) ⟨rfl, rfl, rfl, rfl, trivial⟩
    intro s2
    refine tr_V.iload_n (i := 3) dX2_indexOf_4 rfl rfl ?_
    refine tr_V.aload_n (i := 0) dX2_indexOf_5 rfl rfl ?_
    refine tr_V.getR (Nat.succ_pos _) fl_X2_22 shC_24 rfl dX2_indexOf_6 ?_
    refine tr_V.getI fl_X2_52 shC_26 rfl dX2_indexOf_9 ?_
    refine tr_V.icmp_ge (tgt := 29) dX2_indexOf_12 (by decide) ?_ ?_
    · refine tr_V.iload_n (i := 2) dX2_indexOf_15 rfl rfl ?_
      refine tr_V.iconst (v := (3 : Int32)) dX2_indexOf_16 (by decide) ?_
      refine tr_V.ishl dX2_indexOf_17 ?_
      refine tr_V.aload_n (i := 1) dX2_indexOf_18 rfl rfl ?_
      refine tr_V.iload_n (i := 3) dX2_indexOf_19 rfl rfl ?_
      refine tr_V.bd (fun a3 h4 => ?_)
      refine tr_V.ialdL h4 dX2_indexOf_20 ?_
      refine tr_V.ior dX2_indexOf_21 ?_
      refine tr_V.istore_n (i := 2) dX2_indexOf_22 rfl (Nat.le_of_ble_eq_true rfl) rfl ?_
      refine tr_V.iinc (cst := (1 : Int32)) dX2_indexOf_23 rfl (by decide) rfl ?_
      refine tr_V.goto (tgt := 4) dX2_indexOf_26 (by decide) ?_
      exact tr_V.to (fun h => h) ⟨rfl, rfl, rfl, rfl, trivial⟩
    · exact tr_V.to (fun h => h) ⟨rfl, rfl, trivial⟩
  · intro v1
    refine tr_V.iconst (v := (0 : Int32)) dX2_indexOf_29 (by decide) ?_
    refine tr_V.istore_n (i := 3) dX2_indexOf_30 rfl (Nat.le_of_ble_eq_true rfl) rfl ?_
    refine tr_V.loop (σ := Int32) (step := mX2_indexOf_l31 M v1) (L := fun s5 => [(0, some (.ref 24)), (2, some (.int v1)), (3, some (.int s5))]) (Mf := fun s5 => M) ?_ (0 : Int32) ⟨rfl, rfl, rfl, trivial⟩
    intro s5
    refine tr_V.iload_n (i := 3) dX2_indexOf_31 rfl rfl ?_
    refine tr_V.aload_n (i := 0) dX2_indexOf_32 rfl rfl ?_
    refine tr_V.getI fl_X2_28 shC_24 rfl dX2_indexOf_33 ?_
    refine tr_V.icmp_ge (tgt := 57) dX2_indexOf_36 (by decide) ?_ ?_
    · refine tr_V.aload_n (i := 0) dX2_indexOf_39 rfl rfl ?_
      refine tr_V.getR (Nat.succ_pos _) fl_X2_24 shC_24 rfl dX2_indexOf_40 ?_
      refine tr_V.iload_n (i := 3) dX2_indexOf_43 rfl rfl ?_
      refine tr_V.bd (fun a6 h7 => ?_)
      refine tr_V.iald h7 shC_54 dX2_indexOf_44 ?_
      refine tr_V.iload_n (i := 2) dX2_indexOf_45 rfl rfl ?_
      refine tr_V.icmp_ne (tgt := 51) dX2_indexOf_46 (by decide) ?_ ?_
      · refine tr_V.iload_n (i := 3) dX2_indexOf_49 rfl rfl ?_
        exact tr_V.iret dX2_indexOf_50 rfl (fun h => h)
      · refine tr_V.iinc (cst := (1 : Int32)) dX2_indexOf_51 rfl (by decide) rfl ?_
        refine tr_V.goto (tgt := 31) dX2_indexOf_54 (by decide) ?_
        exact tr_V.to (fun h => h) ⟨rfl, rfl, rfl, trivial⟩
    · refine tr_V.bipush (v := (-9 : Int32)) dX2_indexOf_57 (by decide) ?_
      exact tr_V.iret dX2_indexOf_59 rfl (fun h => h)
abbrev xJ7_fill_53178 (sh : Nat → tr_S) (N : Nat) : tr_X := (cJ7_fill_53178, 4, RJ7, (Option.none : Option Jvm.ClassFile.FieldType), 1, sh, N)
theorem cw_J7_fill_53178 : Cond.code yJ7_fill_53178 cJ7_fill_53178 4 (Option.none : Option Jvm.ClassFile.FieldType) ∈ tr_tbl := tr_in 468 (by decide +kernel) rfl
theorem yk_J7_fill_53178 {sh : Nat → tr_S} {N : Nat} : tr_yk yJ7_fill_53178 (xJ7_fill_53178 sh N) 2 := ⟨cw_J7_fill_53178, in_J7, ⟨by decide +kernel, by decide +kernel, by decide +kernel⟩, Nat.le_of_ble_eq_true rfl⟩
theorem sc_J7_fill_53178 : Cond.static yJ7_fill_53178 ∈ tr_tbl := tr_in 467 (by decide +kernel) rfl
def mJ7_fill_53178_l5 (p0 : Nat) (p1 : Int32) (sh : Nat → tr_S) (s2 : Int32 × tr_M) : Option ((Int32 × tr_M) ⊕ (tr_M)) :=
  if s2.1 < (nI (tr_len sh p0)) then (
    Option.bind (tr_wr (tr_len sh p0) s2.2 p0 s2.1 p1) (fun M3 =>
    some (.inl ((s2.1 + (1 : Int32)), M3))
    )
  ) else (
    some (.inr s2.2)
  )
def mJ7_fill_53178 (sh : Nat → tr_S) (p0 : Nat) (p1 : Int32) (M : tr_M) : Option (tr_M) :=
  Option.bind (tr_gd (decide (tr_len sh p0 ≠ 0))) (fun _ =>
  tr_loop (mJ7_fill_53178_l5 p0 p1 sh) ((0 : Int32), M)
  )
set_option maxRecDepth 100000 in
set_option maxHeartbeats 4000000 in
theorem C_J7_fill_53178 (sh : Nat → tr_S) (N : Nat) (hg : tr_good sh N) (p0 : Nat) (p1 : Int32) (M M' : tr_M) (h : mJ7_fill_53178 sh p0 p1 M = some M') : tr_I yJ7_fill_53178 (xJ7_fill_53178 sh N) [.ref p0, .int p1] M none M' := by
  refine tr_I.of (Z := fun q : tr_M => (none : Option Value) = none ∧ M' = q) pn_J7 rfl hg (Nat.le_of_ble_eq_true rfl) (fun Wt => ?_) h ⟨rfl, rfl⟩
  unfold mJ7_fill_53178
  refine tr_V.iconst (v := (0 : Int32)) dJ7_fill_53178_0 (by decide) ?_
  refine tr_V.istore_n (i := 2) dJ7_fill_53178_1 rfl (Nat.le_of_ble_eq_true rfl) rfl ?_
  refine tr_V.aload_n (i := 0) dJ7_fill_53178_2 rfl rfl ?_
  refine tr_V.gd (fun h1 => ?_)
  refine tr_V.alenI (of_decide_eq_true h1) dJ7_fill_53178_3 ?_
  refine tr_V.istore_n (i := 3) dJ7_fill_53178_4 rfl (Nat.le_of_ble_eq_true rfl) rfl ?_
  refine tr_V.loop (σ := Int32 × tr_M) (step := mJ7_fill_53178_l5 p0 p1 sh) (L := fun s2 => [(0, some (.ref p0)), (1, some (.int p1)), (2, some (.int s2.1)), (3, some (.int (nI (tr_len sh p0))))]) (Mf := fun s2 => s2.2) ?_ ((0 : Int32), M) ⟨rfl, rfl, rfl, rfl, trivial⟩
  intro s2
  refine tr_V.iload_n (i := 2) dJ7_fill_53178_5 rfl rfl ?_
  refine tr_V.iload_n (i := 3) dJ7_fill_53178_6 rfl rfl ?_
  refine tr_V.icmp_ge (tgt := 20) dJ7_fill_53178_7 (by decide) ?_ ?_
  · refine tr_V.aload_n (i := 0) dJ7_fill_53178_10 rfl rfl ?_
    refine tr_V.iload_n (i := 2) dJ7_fill_53178_11 rfl rfl ?_
    refine tr_V.iload_n (i := 1) dJ7_fill_53178_12 rfl rfl ?_
    refine tr_V.bd (fun M3 h4 => ?_)
    refine tr_V.iastL h4 dJ7_fill_53178_13 ?_
    refine tr_V.iinc (cst := (1 : Int32)) dJ7_fill_53178_14 rfl (by decide) rfl ?_
    refine tr_V.goto (tgt := 5) dJ7_fill_53178_17 (by decide) ?_
    exact tr_V.to (fun h => h) ⟨rfl, rfl, rfl, rfl, trivial⟩
  · exact tr_V.vret dJ7_fill_53178_20 rfl (fun h => h)
abbrev xX5_seatsOf : tr_X := (cX5_seatsOf, 4, RX5, (Option.none : Option Jvm.ClassFile.FieldType), 1, shC, 81)
theorem cw_X5_seatsOf : Cond.code yX5_seatsOf cX5_seatsOf 4 (Option.none : Option Jvm.ClassFile.FieldType) ∈ tr_tbl := tr_in 660 (by decide +kernel) rfl
theorem yk_X5_seatsOf : tr_yk yX5_seatsOf (xX5_seatsOf) 2 := ⟨cw_X5_seatsOf, in_X5, ⟨by decide +kernel, by decide +kernel, by decide +kernel⟩, Nat.le_of_ble_eq_true rfl⟩
theorem iv_X5_seatsOf : Cond.instanceMethod yX5_seatsOf ∈ tr_tbl ∧ Cond.selects (yX5_seatsOf).cls yX5_seatsOf yX5_seatsOf ∈ tr_tbl := ⟨tr_in 658 (by decide +kernel) rfl, tr_in 659 (by decide +kernel) rfl⟩
def mX5_seatsOf_l2 (o : Nat) (p1 : Nat) (p2 : Nat) (s1 : Int32 × tr_M) : Option ((Int32 × tr_M) ⊕ (tr_M)) :=
  if s1.1 < (s1.2.1 o 0) then (
    Option.bind (tr_rd (tr_len shC p1) s1.2 p1 s1.1) (fun a2 =>
    Option.bind (tr_wr (tr_len shC p2) s1.2 p2 a2 s1.1) (fun M4 =>
    some (.inl ((s1.1 + (1 : Int32)), M4))
    )
    )
  ) else (
    some (.inr s1.2)
  )
def mX5_seatsOf (o : Nat) (p1 : Nat) (p2 : Nat) (M : tr_M) : Option (tr_M) :=
  tr_loop (mX5_seatsOf_l2 o p1 p2) ((0 : Int32), M)
set_option maxRecDepth 100000 in
set_option maxHeartbeats 4000000 in
theorem C_X5_seatsOf (o : Nat) (ho : tr_isW o) (p1 : Nat) (p2 : Nat) (M M' : tr_M) (h : mX5_seatsOf o p1 p2 M = some M') : tr_I yX5_seatsOf (xX5_seatsOf) [.ref o, .ref p1, .ref p2] M none M' := by
  refine tr_I.of (Z := fun q : tr_M => (none : Option Value) = none ∧ M' = q) pn_X5 rfl gdC (Nat.le_of_ble_eq_true rfl) (fun Wt => ?_) h ⟨rfl, rfl⟩
  unfold mX5_seatsOf
  refine tr_V.iconst (v := (0 : Int32)) dX5_seatsOf_0 (by decide) ?_
  refine tr_V.istore_n (i := 3) dX5_seatsOf_1 rfl (Nat.le_of_ble_eq_true rfl) rfl ?_
  refine tr_V.loop (σ := Int32 × tr_M) (step := mX5_seatsOf_l2 o p1 p2) (L := fun s1 => [(0, some (.ref o)), (1, some (.ref p1)), (2, some (.ref p2)), (3, some (.int s1.1))]) (Mf := fun s1 => s1.2) ?_ ((0 : Int32), M) ⟨rfl, rfl, rfl, rfl, trivial⟩
  intro s1
  refine tr_V.iload_n (i := 3) dX5_seatsOf_2 rfl rfl ?_
  refine tr_V.aload_n (i := 0) dX5_seatsOf_3 rfl rfl ?_
  refine tr_V.getI fl_X5_9 (shW ho) rfl dX5_seatsOf_4 ?_
  refine tr_V.icmp_ge (tgt := 22) dX5_seatsOf_7 (by decide) ?_ ?_
  · refine tr_V.aload_n (i := 2) dX5_seatsOf_10 rfl rfl ?_
    refine tr_V.aload_n (i := 1) dX5_seatsOf_11 rfl rfl ?_
    refine tr_V.iload_n (i := 3) dX5_seatsOf_12 rfl rfl ?_
    refine tr_V.bd (fun a2 h3 => ?_)
    refine tr_V.ialdL h3 dX5_seatsOf_13 ?_
    refine tr_V.iload_n (i := 3) dX5_seatsOf_14 rfl rfl ?_
    refine tr_V.bd (fun M4 h5 => ?_)
    refine tr_V.iastL h5 dX5_seatsOf_15 ?_
    refine tr_V.iinc (cst := (1 : Int32)) dX5_seatsOf_16 rfl (by decide) rfl ?_
    refine tr_V.goto (tgt := 2) dX5_seatsOf_19 (by decide) ?_
    exact tr_V.to (fun h => h) ⟨rfl, rfl, rfl, rfl, trivial⟩
  · exact tr_V.vret dX5_seatsOf_22 rfl (fun h => h)
abbrev xX2_spreadOf : tr_X := (cX2_spreadOf, 4, RX2, (Option.none : Option Jvm.ClassFile.FieldType), 2, shC, 81)
theorem cw_X2_spreadOf : Cond.code yX2_spreadOf cX2_spreadOf 4 (Option.none : Option Jvm.ClassFile.FieldType) ∈ tr_tbl := tr_in 923 (by decide +kernel) rfl
theorem yk_X2_spreadOf : tr_yk yX2_spreadOf (xX2_spreadOf) 2 := ⟨cw_X2_spreadOf, in_X2, ⟨by decide +kernel, by decide +kernel, by decide +kernel⟩, Nat.le_of_ble_eq_true rfl⟩
def mX2_spreadOf_l7 (p1 : Int32) (p2 : Nat) (s3 : Int32 × tr_M) : Option ((Int32 × tr_M) ⊕ (tr_M)) :=
  if s3.1 < (s3.2.1 24 3) then (
    Option.bind (mX2_unpack s3.1 s3.2) (fun c4 =>
    Option.bind (mX5_seatsOf 26 56 55 c4) (fun c6 =>
    Option.bind (tr_rd 10 c6 55 p1) (fun a8 =>
    Option.bind (tr_rd (tr_len shC p2) c6 p2 a8) (fun a10 =>
    Option.bind (tr_wr (tr_len shC p2) c6 p2 a8 (a10 + (1 : Int32))) (fun M12 =>
    some (.inl ((s3.1 + (1 : Int32)), M12))
    )
    )
    )
    )
    )
  ) else (
    some (.inr s3.2)
  )
def mX2_spreadOf (p1 : Int32) (p2 : Nat) (M : tr_M) : Option (tr_M) :=
  Option.bind (mJ7_fill_53178 shC p2 (0 : Int32) M) (fun c1 =>
  tr_loop (mX2_spreadOf_l7 p1 p2) ((0 : Int32), c1)
  )
set_option maxRecDepth 100000 in
set_option maxHeartbeats 4000000 in
theorem C_X2_spreadOf (p1 : Int32) (p2 : Nat) (M M' : tr_M) (h : mX2_spreadOf p1 p2 M = some M') : tr_I yX2_spreadOf (xX2_spreadOf) [.ref 24, .int p1, .ref p2] M none M' := by
  refine tr_I.of (Z := fun q : tr_M => (none : Option Value) = none ∧ M' = q) pn_X2 rfl gdC (Nat.le_of_ble_eq_true rfl) (fun Wt => ?_) h ⟨rfl, rfl⟩
  unfold mX2_spreadOf
  refine tr_V.aload_n (i := 2) dX2_spreadOf_0 rfl rfl ?_
  refine tr_V.iconst (v := (0 : Int32)) dX2_spreadOf_1 (by decide) ?_
  refine tr_V.bd (fun c1 h2 => ?_)
  refine tr_V.callS (C_J7_fill_53178 shC 81 gdC p2 (0 : Int32) M _ h2) yk_J7_fill_53178 sc_J7_fill_53178 ml_X2_92 ⟨rfl, Nat.le_of_ble_eq_true rfl⟩ rfl (Nat.le_of_ble_eq_true rfl) rfl dX2_spreadOf_2 ?_
  refine tr_V.iconst (v := (0 : Int32)) dX2_spreadOf_5 (by decide) ?_
  refine tr_V.istore_n (i := 3) dX2_spreadOf_6 rfl (Nat.le_of_ble_eq_true rfl) rfl ?_
  refine tr_V.loop (σ := Int32 × tr_M) (step := mX2_spreadOf_l7 p1 p2) (L := fun s3 => [(0, some (.ref 24)), (1, some (.int p1)), (2, some (.ref p2)), (3, some (.int s3.1))]) (Mf := fun s3 => s3.2) ?_ ((0 : Int32), c1) ⟨rfl, rfl, rfl, rfl, trivial⟩
  intro s3
  refine tr_V.iload_n (i := 3) dX2_spreadOf_7 rfl rfl ?_
  refine tr_V.aload_n (i := 0) dX2_spreadOf_8 rfl rfl ?_
  refine tr_V.getI fl_X2_28 shC_24 rfl dX2_spreadOf_9 ?_
  refine tr_V.icmp_ge (tgt := 53) dX2_spreadOf_12 (by decide) ?_ ?_
  · refine tr_V.aload_n (i := 0) dX2_spreadOf_15 rfl rfl ?_
    refine tr_V.iload_n (i := 3) dX2_spreadOf_16 rfl rfl ?_
    refine tr_V.bd (fun c4 h5 => ?_)
    refine tr_V.callV (C_X2_unpack s3.1 s3.2 _ h5) yk_X2_unpack iv_X2_unpack ml_X2_82 shC_24 rfl ⟨rfl, Nat.le_of_ble_eq_true rfl⟩ rfl (Nat.le_of_ble_eq_true rfl) rfl dX2_spreadOf_17 ?_
    refine tr_V.aload_n (i := 0) dX2_spreadOf_20 rfl rfl ?_
    refine tr_V.getR (Nat.succ_pos _) fl_X2_22 shC_24 rfl dX2_spreadOf_21 ?_
    refine tr_V.aload_n (i := 0) dX2_spreadOf_24 rfl rfl ?_
    refine tr_V.getR (Nat.succ_pos _) fl_X2_44 shC_24 rfl dX2_spreadOf_25 ?_
    refine tr_V.aload_n (i := 0) dX2_spreadOf_28 rfl rfl ?_
    refine tr_V.getR (Nat.succ_pos _) fl_X2_41 shC_24 rfl dX2_spreadOf_29 ?_
    refine tr_V.bd (fun c6 h7 => ?_)
    refine tr_V.callV (C_X5_seatsOf 26 isW_26 56 55 c4 _ h7) yk_X5_seatsOf iv_X5_seatsOf ml_X2_98 shC_26 rfl ⟨rfl, Nat.le_of_ble_eq_true rfl⟩ rfl (Nat.le_of_ble_eq_true rfl) rfl dX2_spreadOf_32 ?_
    refine tr_V.aload_n (i := 2) dX2_spreadOf_35 rfl rfl ?_
    refine tr_V.aload_n (i := 0) dX2_spreadOf_36 rfl rfl ?_
    refine tr_V.getR (Nat.succ_pos _) fl_X2_41 shC_24 rfl dX2_spreadOf_37 ?_
    refine tr_V.iload_n (i := 1) dX2_spreadOf_40 rfl rfl ?_
    refine tr_V.bd (fun a8 h9 => ?_)
    refine tr_V.iald h9 shC_55 dX2_spreadOf_41 ?_
    refine tr_V.dup2 rfl rfl dX2_spreadOf_42 ?_
    refine tr_V.bd (fun a10 h11 => ?_)
    refine tr_V.ialdL h11 dX2_spreadOf_43 ?_
    refine tr_V.iconst (v := (1 : Int32)) dX2_spreadOf_44 (by decide) ?_
    refine tr_V.iadd dX2_spreadOf_45 ?_
    refine tr_V.bd (fun M12 h13 => ?_)
    refine tr_V.iastL h13 dX2_spreadOf_46 ?_
    refine tr_V.iinc (cst := (1 : Int32)) dX2_spreadOf_47 rfl (by decide) rfl ?_
    refine tr_V.goto (tgt := 7) dX2_spreadOf_50 (by decide) ?_
    exact tr_V.to (fun h => h) ⟨rfl, rfl, rfl, rfl, trivial⟩
  · exact tr_V.vret dX2_spreadOf_53 rfl (fun h => h)
abbrev xX2_numberAhead : tr_X := (cX2_numberAhead, 5, RX2, (some .int), 2, shC, 81)
theorem cw_X2_numberAhead : Cond.code yX2_numberAhead cX2_numberAhead 5 (some .int) ∈ tr_tbl := tr_in 960 (by decide +kernel) rfl
theorem yk_X2_numberAhead : tr_yk yX2_numberAhead (xX2_numberAhead) 2 := ⟨cw_X2_numberAhead, in_X2, ⟨by decide +kernel, by decide +kernel, by decide +kernel⟩, Nat.le_of_ble_eq_true rfl⟩
def mX2_numberAhead_l5 (p1 : Int32) (p2 : Int32) (s1 : Int32 × Int32 × tr_M) : Option ((Int32 × Int32 × tr_M) ⊕ (Int32 × tr_M)) :=
  if s1.2.1 < (s1.2.2.1 24 3) then (
    Option.bind (mX2_unpack s1.2.1 s1.2.2) (fun c2 =>
    Option.bind (mX5_seatsOf 26 56 55 c2) (fun c4 =>
    Option.bind (tr_rd 10 c4 55 p1) (fun a6 =>
    Option.bind (tr_rd 10 c4 55 p2) (fun a8 =>
    if a6 < a8 then (
      some (.inl ((s1.1 + (1 : Int32)), (s1.2.1 + (1 : Int32)), c4))
    ) else (
      some (.inl (s1.1, (s1.2.1 + (1 : Int32)), c4))
    )
    )
    )
    )
    )
  ) else (
    some (.inr (s1.1, s1.2.2))
  )
def mX2_numberAhead (p1 : Int32) (p2 : Int32) (M : tr_M) : Option (Int32 × tr_M) :=
  tr_loop (mX2_numberAhead_l5 p1 p2) ((0 : Int32), (0 : Int32), M)
set_option maxRecDepth 100000 in
set_option maxHeartbeats 4000000 in
theorem C_X2_numberAhead (p1 : Int32) (p2 : Int32) (M : tr_M) (r : Int32 × tr_M) (h : mX2_numberAhead p1 p2 M = some r) : tr_I yX2_numberAhead (xX2_numberAhead) [.ref 24, .int p1, .int p2] M (some (.int r.1)) r.2 := by
  refine tr_I.of (Z := fun q : Int32 × tr_M => (some (.int r.1) : Option Value) = some (.int q.1) ∧ r.2 = q.2) pn_X2 rfl gdC (Nat.le_of_ble_eq_true rfl) (fun Wt => ?_) h ⟨rfl, rfl⟩
  unfold mX2_numberAhead
  refine tr_V.iconst (v := (0 : Int32)) dX2_numberAhead_0 (by decide) ?_
  refine tr_V.istore_n (i := 3) dX2_numberAhead_1 rfl (Nat.le_of_ble_eq_true rfl) rfl ?_
  refine tr_V.iconst (v := (0 : Int32)) dX2_numberAhead_2 (by decide) ?_
  refine tr_V.istore (i := 4) dX2_numberAhead_3 (Nat.le_of_ble_eq_true rfl) rfl ?_
  refine tr_V.loop (σ := Int32 × Int32 × tr_M) (step := mX2_numberAhead_l5 p1 p2) (L := fun s1 => [(0, some (.ref 24)), (1, some (.int p1)), (2, some (.int p2)), (3, some (.int s1.1)), (4, some (.int s1.2.1))]) (Mf := fun s1 => s1.2.2) ?_ ((0 : Int32), (0 : Int32), M) ⟨rfl, rfl, rfl, rfl, rfl, trivial⟩
  intro s1
  refine tr_V.iload dX2_numberAhead_5 rfl ?_
  refine tr_V.aload_n (i := 0) dX2_numberAhead_7 rfl rfl ?_
  refine tr_V.getI fl_X2_28 shC_24 rfl dX2_numberAhead_8 ?_
  refine tr_V.icmp_ge (tgt := 59) dX2_numberAhead_11 (by decide) ?_ ?_
  · refine tr_V.aload_n (i := 0) dX2_numberAhead_14 rfl rfl ?_
    refine tr_V.iload dX2_numberAhead_15 rfl ?_
    refine tr_V.bd (fun c2 h3 => ?_)
    refine tr_V.callV (C_X2_unpack s1.2.1 s1.2.2 _ h3) yk_X2_unpack iv_X2_unpack ml_X2_82 shC_24 rfl ⟨rfl, Nat.le_of_ble_eq_true rfl⟩ rfl (Nat.le_of_ble_eq_true rfl) rfl dX2_numberAhead_17 ?_
    refine tr_V.aload_n (i := 0) dX2_numberAhead_20 rfl rfl ?_
    refine tr_V.getR (Nat.succ_pos _) fl_X2_22 shC_24 rfl dX2_numberAhead_21 ?_
    refine tr_V.aload_n (i := 0) dX2_numberAhead_24 rfl rfl ?_
    refine tr_V.getR (Nat.succ_pos _) fl_X2_44 shC_24 rfl dX2_numberAhead_25 ?_
    refine tr_V.aload_n (i := 0) dX2_numberAhead_28 rfl rfl ?_
    refine tr_V.getR (Nat.succ_pos _) fl_X2_41 shC_24 rfl dX2_numberAhead_29 ?_
    refine tr_V.bd (fun c4 h5 => ?_)
    refine tr_V.callV (C_X5_seatsOf 26 isW_26 56 55 c2 _ h5) yk_X5_seatsOf iv_X5_seatsOf ml_X2_98 shC_26 rfl ⟨rfl, Nat.le_of_ble_eq_true rfl⟩ rfl (Nat.le_of_ble_eq_true rfl) rfl dX2_numberAhead_32 ?_
    refine tr_V.aload_n (i := 0) dX2_numberAhead_35 rfl rfl ?_
    refine tr_V.getR (Nat.succ_pos _) fl_X2_41 shC_24 rfl dX2_numberAhead_36 ?_
    refine tr_V.iload_n (i := 1) dX2_numberAhead_39 rfl rfl ?_
    refine tr_V.bd (fun a6 h7 => ?_)
    refine tr_V.iald h7 shC_55 dX2_numberAhead_40 ?_
    refine tr_V.aload_n (i := 0) dX2_numberAhead_41 rfl rfl ?_
    refine tr_V.getR (Nat.succ_pos _) fl_X2_41 shC_24 rfl dX2_numberAhead_42 ?_
    refine tr_V.iload_n (i := 2) dX2_numberAhead_45 rfl rfl ?_
    refine tr_V.bd (fun a8 h9 => ?_)
    refine tr_V.iald h9 shC_55 dX2_numberAhead_46 ?_
    refine tr_V.icmp_ge (tgt := 53) dX2_numberAhead_47 (by decide) ?_ ?_
    · refine tr_V.iinc (cst := (1 : Int32)) dX2_numberAhead_50 rfl (by decide) rfl ?_
      refine tr_V.iinc (cst := (1 : Int32)) dX2_numberAhead_53 rfl (by decide) rfl ?_
      refine tr_V.goto (tgt := 5) dX2_numberAhead_56 (by decide) ?_
      exact tr_V.to (fun h => h) ⟨rfl, rfl, rfl, rfl, rfl, trivial⟩
    · refine tr_V.iinc (cst := (1 : Int32)) dX2_numberAhead_53 rfl (by decide) rfl ?_
      refine tr_V.goto (tgt := 5) dX2_numberAhead_56 (by decide) ?_
      exact tr_V.to (fun h => h) ⟨rfl, rfl, rfl, rfl, rfl, trivial⟩
  · refine tr_V.iload_n (i := 3) dX2_numberAhead_59 rfl rfl ?_
    exact tr_V.iret dX2_numberAhead_60 rfl (fun h => h)
abbrev xX5_longest : tr_X := (cX5_longest, 5, RX5, (some .int), 1, shC, 81)
theorem cw_X5_longest : Cond.code yX5_longest cX5_longest 5 (some .int) ∈ tr_tbl := tr_in 637 (by decide +kernel) rfl
theorem yk_X5_longest : tr_yk yX5_longest (xX5_longest) 1 := ⟨cw_X5_longest, in_X5, ⟨by decide +kernel, by decide +kernel, by decide +kernel⟩, Nat.le_of_ble_eq_true rfl⟩
theorem iv_X5_longest : Cond.instanceMethod yX5_longest ∈ tr_tbl ∧ Cond.selects (yX5_longest).cls yX5_longest yX5_longest ∈ tr_tbl := ⟨tr_in 636 (by decide +kernel) rfl, tr_in 14 (by decide +kernel) rfl⟩
def mX5_longest_l17 (o : Nat) (p1 : Nat) (M : tr_M) (s1 : Int32 × Int32) (s2 : Int32 × Int32) : Option ((Int32 × Int32) ⊕ ((Int32 × Int32) ⊕ (Int32))) :=
  if s2.2 < (M.1 o 0) then (
    Option.bind (tr_rd (tr_len shC p1) M p1 s1.2) (fun a3 =>
    Option.bind (tr_ra 10 (fun i => o + 2 + i) a3) (fun r5 =>
    Option.bind (tr_rd (tr_len shC p1) M p1 s2.2) (fun a7 =>
    Option.bind (tr_rd 10 M r5 a7) (fun a9 =>
    if 0 < a9 then (
      some (.inl ((mJ9_max s2.1 (s2.2 - s1.2)), (s2.2 + (1 : Int32))))
    ) else (
      some (.inl (s2.1, (s2.2 + (1 : Int32))))
    )
    )
    )
    )
    )
  ) else (
    some (.inr (.inl (s2.1, (s1.2 + (1 : Int32)))))
  )
def mX5_longest_l4 (o : Nat) (p1 : Nat) (M : tr_M) (s1 : Int32 × Int32) : Option ((Int32 × Int32) ⊕ (Int32)) :=
  if s1.2 < (M.1 o 0) then (
    tr_loop (mX5_longest_l17 o p1 M s1) (s1.1, (s1.2 + (1 : Int32)))
  ) else (
    some (.inr s1.1)
  )
def mX5_longest (o : Nat) (p1 : Nat) (M : tr_M) : Option (Int32) :=
  tr_loop (mX5_longest_l4 o p1 M) ((0 : Int32), (0 : Int32))
set_option maxRecDepth 100000 in
set_option maxHeartbeats 4000000 in
theorem C_X5_longest (o : Nat) (ho : tr_isW o) (p1 : Nat) (M : tr_M) (r : Int32) (h : mX5_longest o p1 M = some r) : tr_I yX5_longest (xX5_longest) [.ref o, .ref p1] M (some (.int r)) M := by
  refine tr_I.of (Z := fun q : Int32 => (some (.int r) : Option Value) = some (.int q) ∧ M = M) pn_X5 rfl gdC (Nat.le_of_ble_eq_true rfl) (fun Wt => ?_) h ⟨rfl, rfl⟩
  unfold mX5_longest
  refine tr_V.iconst (v := (0 : Int32)) dX5_longest_0 (by decide) ?_
  refine tr_V.istore_n (i := 2) dX5_longest_1 rfl (Nat.le_of_ble_eq_true rfl) rfl ?_
  refine tr_V.iconst (v := (0 : Int32)) dX5_longest_2 (by decide) ?_
  refine tr_V.istore_n (i := 3) dX5_longest_3 rfl (Nat.le_of_ble_eq_true rfl) rfl ?_
  refine tr_V.loop (σ := Int32 × Int32) (step := mX5_longest_l4 o p1 M) (L := fun s1 => [(0, some (.ref o)), (1, some (.ref p1)), (2, some (.int s1.1)), (3, some (.int s1.2))]) (Mf := fun s1 => M) ?_ ((0 : Int32), (0 : Int32)) ⟨rfl, rfl, rfl, rfl, trivial⟩
  intro s1
  refine tr_V.iload_n (i := 3) dX5_longest_4 rfl rfl ?_
  refine tr_V.aload_n (i := 0) dX5_longest_5 rfl rfl ?_
  refine tr_V.getI fl_X5_9 (shW ho) rfl dX5_longest_6 ?_
  refine tr_V.icmp_ge (tgt := 63) dX5_longest_9 (by decide) ?_ ?_
  · refine tr_V.iload_n (i := 3) dX5_longest_12 rfl rfl ?_
    refine tr_V.iconst (v := (1 : Int32)) dX5_longest_13 (by decide) ?_
    refine tr_V.iadd dX5_longest_14 ?_
    refine tr_V.istore (i := 4) dX5_longest_15 (Nat.le_of_ble_eq_true rfl) rfl ?_
    refine tr_V.loop (σ := Int32 × Int32) (step := mX5_longest_l17 o p1 M s1) (L := fun s2 => [(0, some (.ref o)), (1, some (.ref p1)), (2, some (.int s2.1)), (3, some (.int s1.2)), (4, some (.int s2.2))]) (Mf := fun s2 => M) ?_ (s1.1, (s1.2 + (1 : Int32))) ⟨rfl, rfl, rfl, rfl, rfl, trivial⟩
    intro s2
    refine tr_V.iload dX5_longest_17 rfl ?_
    refine tr_V.aload_n (i := 0) dX5_longest_19 rfl rfl ?_
    refine tr_V.getI fl_X5_9 (shW ho) rfl dX5_longest_20 ?_
    refine tr_V.icmp_ge (tgt := 57) dX5_longest_23 (by decide) ?_ ?_
    · refine tr_V.aload_n (i := 0) dX5_longest_26 rfl rfl ?_
      refine tr_V.getR (Nat.succ_pos _) fl_X5_23 (shW ho) rfl dX5_longest_27 ?_
      refine tr_V.aload_n (i := 1) dX5_longest_30 rfl rfl ?_
      refine tr_V.iload_n (i := 3) dX5_longest_31 rfl rfl ?_
      refine tr_V.bd (fun a3 h4 => ?_)
      refine tr_V.ialdL h4 dX5_longest_32 ?_
      refine tr_V.bd (fun r5 h6 => ?_)
      refine tr_V.aald (ty := .array .int) h6 (shW_1 ho) (tr_ra_pos h6 (by omega)) (fun _ => rfl) rfl dX5_longest_33 ?_
      refine tr_V.aload_n (i := 1) dX5_longest_34 rfl rfl ?_
      refine tr_V.iload dX5_longest_35 rfl ?_
      refine tr_V.bd (fun a7 h8 => ?_)
      refine tr_V.ialdL h8 dX5_longest_37 ?_
      refine tr_V.bd (fun a9 h10 => ?_)
      refine tr_V.iald h10 (shW_in ho h6) dX5_longest_38 ?_
      refine tr_V.if_le (tgt := 51) dX5_longest_39 (by decide) ?_ ?_
      · refine tr_V.iload_n (i := 2) dX5_longest_42 rfl rfl ?_
        refine tr_V.iload dX5_longest_43 rfl ?_
        refine tr_V.iload_n (i := 3) dX5_longest_45 rfl rfl ?_
        refine tr_V.isub dX5_longest_46 ?_
        refine tr_V.mmax ml_X5_119 w_mmaxS in_J9 w_mmaxC (Nat.le_of_ble_eq_true rfl) (Nat.le_of_ble_eq_true rfl) dX5_longest_47 ?_
        refine tr_V.istore_n (i := 2) dX5_longest_50 rfl (Nat.le_of_ble_eq_true rfl) rfl ?_
        refine tr_V.iinc (cst := (1 : Int32)) dX5_longest_51 rfl (by decide) rfl ?_
        refine tr_V.goto (tgt := 17) dX5_longest_54 (by decide) ?_
        exact tr_V.to (fun h => h) ⟨rfl, rfl, rfl, rfl, rfl, trivial⟩
      · refine tr_V.iinc (cst := (1 : Int32)) dX5_longest_51 rfl (by decide) rfl ?_
        refine tr_V.goto (tgt := 17) dX5_longest_54 (by decide) ?_
        exact tr_V.to (fun h => h) ⟨rfl, rfl, rfl, rfl, rfl, trivial⟩
    · refine tr_V.iinc (cst := (1 : Int32)) dX5_longest_57 rfl (by decide) rfl ?_
      refine tr_V.goto (tgt := 4) dX5_longest_60 (by decide) ?_
      exact tr_V.to (fun h => h) ⟨rfl, rfl, rfl, rfl, trivial⟩
  · refine tr_V.iload_n (i := 2) dX5_longest_63 rfl rfl ?_
    exact tr_V.iret dX5_longest_64 rfl (fun h => h)
abbrev xX5_weightAdded : tr_X := (cX5_weightAdded, 5, RX5, (some .int), 1, shC, 81)
theorem cw_X5_weightAdded : Cond.code yX5_weightAdded cX5_weightAdded 5 (some .int) ∈ tr_tbl := tr_in 644 (by decide +kernel) rfl
theorem yk_X5_weightAdded : tr_yk yX5_weightAdded (xX5_weightAdded) 2 := ⟨cw_X5_weightAdded, in_X5, ⟨by decide +kernel, by decide +kernel, by decide +kernel⟩, Nat.le_of_ble_eq_true rfl⟩
theorem iv_X5_weightAdded : Cond.instanceMethod yX5_weightAdded ∈ tr_tbl ∧ Cond.selects (yX5_weightAdded).cls yX5_weightAdded yX5_weightAdded ∈ tr_tbl := ⟨tr_in 642 (by decide +kernel) rfl, tr_in 643 (by decide +kernel) rfl⟩
def mX5_weightAdded_l5 (o : Nat) (p1 : Int32) (p2 : Int32) (M : tr_M) (s2 : Int32 × Int32) : Option ((Int32 × Int32) ⊕ (Int32)) :=
  if s2.2 < (M.1 o 0) then (
    if ((p2 >>> (s2.2 &&& 31)) &&& (1 : Int32)) = 0 then (
      some (.inl (s2.1, (s2.2 + (1 : Int32))))
    ) else (
      Option.bind (tr_ra 10 (fun i => o + 2 + i) p1) (fun r3 =>
      Option.bind (tr_rd 10 M r3 s2.2) (fun a5 =>
      some (.inl ((s2.1 + a5), (s2.2 + (1 : Int32))))
      )
      )
    )
  ) else (
    some (.inr s2.1)
  )
def mX5_weightAdded (o : Nat) (p1 : Int32) (p2 : Int32) (M : tr_M) : Option (Int32) :=
  Option.bind (show Option (Int32) from
    tr_loop (mX5_weightAdded_l5 o p1 p2 M) ((0 : Int32), (0 : Int32))
  ) (fun (v1 : Int32) =>
    Option.bind (tr_rd 10 M (o + 13) p1) (fun a7 =>
    some (a7 - ((2 : Int32) * v1))
    )
  )
set_option maxRecDepth 100000 in
set_option maxHeartbeats 4000000 in
theorem C_X5_weightAdded (o : Nat) (ho : tr_isW o) (p1 : Int32) (p2 : Int32) (M : tr_M) (r : Int32) (h : mX5_weightAdded o p1 p2 M = some r) : tr_I yX5_weightAdded (xX5_weightAdded) [.ref o, .int p1, .int p2] M (some (.int r)) M := by
  refine tr_I.of (Z := fun q : Int32 => (some (.int r) : Option Value) = some (.int q) ∧ M = M) pn_X5 rfl gdC (Nat.le_of_ble_eq_true rfl) (fun Wt => ?_) h ⟨rfl, rfl⟩
  unfold mX5_weightAdded
  refine tr_V.iconst (v := (0 : Int32)) dX5_weightAdded_0 (by decide) ?_
  refine tr_V.istore_n (i := 3) dX5_weightAdded_1 rfl (Nat.le_of_ble_eq_true rfl) rfl ?_
  refine tr_V.iconst (v := (0 : Int32)) dX5_weightAdded_2 (by decide) ?_
  refine tr_V.istore (i := 4) dX5_weightAdded_3 (Nat.le_of_ble_eq_true rfl) rfl ?_
  refine tr_V.seq (τ := Int32) (pc' := 41) (L := fun v1 => [(0, some (.ref o)), (1, some (.int p1)), (3, some (.int v1))]) (S := fun v1 => []) (Mf := fun v1 => M) ?_ ?_
  · refine tr_V.loop (σ := Int32 × Int32) (step := mX5_weightAdded_l5 o p1 p2 M) (L := fun s2 => [(0, some (.ref o)), (1, some (.int p1)), (2, some (.int p2)), (3, some (.int s2.1)), (4, some (.int s2.2))]) (Mf := fun s2 => M) ?_ ((0 : Int32), (0 : Int32)) ⟨rfl, rfl, rfl, rfl, rfl, trivial⟩
    intro s2
    refine tr_V.iload dX5_weightAdded_5 rfl ?_
    refine tr_V.aload_n (i := 0) dX5_weightAdded_7 rfl rfl ?_
    refine tr_V.getI fl_X5_9 (shW ho) rfl dX5_weightAdded_8 ?_
    refine tr_V.icmp_ge (tgt := 41) dX5_weightAdded_11 (by decide) ?_ ?_
    · refine tr_V.iload_n (i := 2) dX5_weightAdded_14 rfl rfl ?_
      refine tr_V.iload dX5_weightAdded_15 rfl ?_
      refine tr_V.ishr dX5_weightAdded_17 ?_
      refine tr_V.iconst (v := (1 : Int32)) dX5_weightAdded_18 (by decide) ?_
      refine tr_V.iand dX5_weightAdded_19 ?_
      refine tr_V.if_eq (tgt := 35) dX5_weightAdded_20 (by decide) ?_ ?_
      · refine tr_V.iinc (cst := (1 : Int32)) dX5_weightAdded_35 rfl (by decide) rfl ?_
        refine tr_V.goto (tgt := 5) dX5_weightAdded_38 (by decide) ?_
        exact tr_V.to (fun h => h) ⟨rfl, rfl, rfl, rfl, rfl, trivial⟩
      · refine tr_V.iload_n (i := 3) dX5_weightAdded_23 rfl rfl ?_
        refine tr_V.aload_n (i := 0) dX5_weightAdded_24 rfl rfl ?_
        refine tr_V.getR (Nat.succ_pos _) fl_X5_23 (shW ho) rfl dX5_weightAdded_25 ?_
        refine tr_V.iload_n (i := 1) dX5_weightAdded_28 rfl rfl ?_
        refine tr_V.bd (fun r3 h4 => ?_)
        refine tr_V.aald (ty := .array .int) h4 (shW_1 ho) (tr_ra_pos h4 (by omega)) (fun _ => rfl) rfl dX5_weightAdded_29 ?_
        refine tr_V.iload dX5_weightAdded_30 rfl ?_
        refine tr_V.bd (fun a5 h6 => ?_)
        refine tr_V.iald h6 (shW_in ho h4) dX5_weightAdded_32 ?_
        refine tr_V.iadd dX5_weightAdded_33 ?_
        refine tr_V.istore_n (i := 3) dX5_weightAdded_34 rfl (Nat.le_of_ble_eq_true rfl) rfl ?_
        refine tr_V.iinc (cst := (1 : Int32)) dX5_weightAdded_35 rfl (by decide) rfl ?_
        refine tr_V.goto (tgt := 5) dX5_weightAdded_38 (by decide) ?_
        exact tr_V.to (fun h => h) ⟨rfl, rfl, rfl, rfl, rfl, trivial⟩
    · exact tr_V.to (fun h => h) ⟨rfl, rfl, rfl, trivial⟩
  · intro v1
    refine tr_V.aload_n (i := 0) dX5_weightAdded_41 rfl rfl ?_
    refine tr_V.getR (Nat.succ_pos _) fl_X5_30 (shW ho) rfl dX5_weightAdded_42 ?_
    refine tr_V.iload_n (i := 1) dX5_weightAdded_45 rfl rfl ?_
    refine tr_V.bd (fun a7 h8 => ?_)
    refine tr_V.iald h8 (shW_13 ho) dX5_weightAdded_46 ?_
    refine tr_V.iconst (v := (2 : Int32)) dX5_weightAdded_47 (by decide) ?_
    refine tr_V.iload_n (i := 3) dX5_weightAdded_48 rfl rfl ?_
    refine tr_V.imul dX5_weightAdded_49 ?_
    refine tr_V.isub dX5_weightAdded_50 ?_
    exact tr_V.iret dX5_weightAdded_51 rfl (fun h => h)
abbrev xX5_heldBy : tr_X := (cX5_heldBy, 4, RX5, (some .int), 1, shC, 81)
theorem cw_X5_heldBy : Cond.code yX5_heldBy cX5_heldBy 4 (some .int) ∈ tr_tbl := tr_in 648 (by decide +kernel) rfl
theorem yk_X5_heldBy : tr_yk yX5_heldBy (xX5_heldBy) 1 := ⟨cw_X5_heldBy, in_X5, ⟨by decide +kernel, by decide +kernel, by decide +kernel⟩, Nat.le_of_ble_eq_true rfl⟩
theorem iv_X5_heldBy : Cond.instanceMethod yX5_heldBy ∈ tr_tbl ∧ Cond.selects (yX5_heldBy).cls yX5_heldBy yX5_heldBy ∈ tr_tbl := ⟨tr_in 646 (by decide +kernel) rfl, tr_in 647 (by decide +kernel) rfl⟩
def mX5_heldBy_l4 (o : Nat) (p1 : Int32) (M : tr_M) (s1 : Int32 × Int32) : Option ((Int32 × Int32) ⊕ (Int32)) :=
  if s1.2 < (M.1 o 0) then (
    if ((p1 >>> (s1.2 &&& 31)) &&& (1 : Int32)) = 0 then (
      some (.inl (s1.1, (s1.2 + (1 : Int32))))
    ) else (
      Option.bind (tr_rd 10 M (o + 12) s1.2) (fun a2 =>
      if (a2 &&& (p1 ^^^ (-1 : Int32))) = 0 then (
        some (.inl (s1.1, (s1.2 + (1 : Int32))))
      ) else (
        some (.inl ((s1.1 + (1 : Int32)), (s1.2 + (1 : Int32))))
      )
      )
    )
  ) else (
    some (.inr s1.1)
  )
def mX5_heldBy (o : Nat) (p1 : Int32) (M : tr_M) : Option (Int32) :=
  tr_loop (mX5_heldBy_l4 o p1 M) ((0 : Int32), (0 : Int32))
set_option maxRecDepth 100000 in
set_option maxHeartbeats 4000000 in
theorem C_X5_heldBy (o : Nat) (ho : tr_isW o) (p1 : Int32) (M : tr_M) (r : Int32) (h : mX5_heldBy o p1 M = some r) : tr_I yX5_heldBy (xX5_heldBy) [.ref o, .int p1] M (some (.int r)) M := by
  refine tr_I.of (Z := fun q : Int32 => (some (.int r) : Option Value) = some (.int q) ∧ M = M) pn_X5 rfl gdC (Nat.le_of_ble_eq_true rfl) (fun Wt => ?_) h ⟨rfl, rfl⟩
  unfold mX5_heldBy
  refine tr_V.iconst (v := (0 : Int32)) dX5_heldBy_0 (by decide) ?_
  refine tr_V.istore_n (i := 2) dX5_heldBy_1 rfl (Nat.le_of_ble_eq_true rfl) rfl ?_
  refine tr_V.iconst (v := (0 : Int32)) dX5_heldBy_2 (by decide) ?_
  refine tr_V.istore_n (i := 3) dX5_heldBy_3 rfl (Nat.le_of_ble_eq_true rfl) rfl ?_
  refine tr_V.loop (σ := Int32 × Int32) (step := mX5_heldBy_l4 o p1 M) (L := fun s1 => [(0, some (.ref o)), (1, some (.int p1)), (2, some (.int s1.1)), (3, some (.int s1.2))]) (Mf := fun s1 => M) ?_ ((0 : Int32), (0 : Int32)) ⟨rfl, rfl, rfl, rfl, trivial⟩
  intro s1
  refine tr_V.iload_n (i := 3) dX5_heldBy_4 rfl rfl ?_
  refine tr_V.aload_n (i := 0) dX5_heldBy_5 rfl rfl ?_
  refine tr_V.getI fl_X5_9 (shW ho) rfl dX5_heldBy_6 ?_
  refine tr_V.icmp_ge (tgt := 42) dX5_heldBy_9 (by decide) ?_ ?_
  · refine tr_V.iload_n (i := 1) dX5_heldBy_12 rfl rfl ?_
    refine tr_V.iload_n (i := 3) dX5_heldBy_13 rfl rfl ?_
    refine tr_V.ishr dX5_heldBy_14 ?_
    refine tr_V.iconst (v := (1 : Int32)) dX5_heldBy_15 (by decide) ?_
    refine tr_V.iand dX5_heldBy_16 ?_
    refine tr_V.if_eq (tgt := 36) dX5_heldBy_17 (by decide) ?_ ?_
    · refine tr_V.iinc (cst := (1 : Int32)) dX5_heldBy_36 rfl (by decide) rfl ?_
      refine tr_V.goto (tgt := 4) dX5_heldBy_39 (by decide) ?_
      exact tr_V.to (fun h => h) ⟨rfl, rfl, rfl, rfl, trivial⟩
    · refine tr_V.aload_n (i := 0) dX5_heldBy_20 rfl rfl ?_
      refine tr_V.getR (Nat.succ_pos _) fl_X5_26 (shW ho) rfl dX5_heldBy_21 ?_
      refine tr_V.iload_n (i := 3) dX5_heldBy_24 rfl rfl ?_
      refine tr_V.bd (fun a2 h3 => ?_)
      refine tr_V.iald h3 (shW_12 ho) dX5_heldBy_25 ?_
      refine tr_V.iload_n (i := 1) dX5_heldBy_26 rfl rfl ?_
      refine tr_V.iconst (v := (-1 : Int32)) dX5_heldBy_27 (by decide) ?_
      refine tr_V.ixor dX5_heldBy_28 ?_
      refine tr_V.iand dX5_heldBy_29 ?_
      refine tr_V.if_eq (tgt := 36) dX5_heldBy_30 (by decide) ?_ ?_
      · refine tr_V.iinc (cst := (1 : Int32)) dX5_heldBy_36 rfl (by decide) rfl ?_
        refine tr_V.goto (tgt := 4) dX5_heldBy_39 (by decide) ?_
        exact tr_V.to (fun h => h) ⟨rfl, rfl, rfl, rfl, trivial⟩
      · refine tr_V.iinc (cst := (1 : Int32)) dX5_heldBy_33 rfl (by decide) rfl ?_
        refine tr_V.iinc (cst := (1 : Int32)) dX5_heldBy_36 rfl (by decide) rfl ?_
        refine tr_V.goto (tgt := 4) dX5_heldBy_39 (by decide) ?_
        exact tr_V.to (fun h => h) ⟨rfl, rfl, rfl, rfl, trivial⟩
  · refine tr_V.iload_n (i := 2) dX5_heldBy_42 rfl rfl ?_
    exact tr_V.iret dX5_heldBy_43 rfl (fun h => h)
abbrev xX5_measured : tr_X := (cX5_measured, 8, RX5, (some .int), 2, shC, 81)
theorem cw_X5_measured : Cond.code yX5_measured cX5_measured 8 (some .int) ∈ tr_tbl := tr_in 633 (by decide +kernel) rfl
theorem yk_X5_measured : tr_yk yX5_measured (xX5_measured) 2 := ⟨cw_X5_measured, in_X5, ⟨by decide +kernel, by decide +kernel, by decide +kernel⟩, Nat.le_of_ble_eq_true rfl⟩
theorem iv_X5_measured : Cond.instanceMethod yX5_measured ∈ tr_tbl ∧ Cond.selects (yX5_measured).cls yX5_measured yX5_measured ∈ tr_tbl := ⟨tr_in 631 (by decide +kernel) rfl, tr_in 632 (by decide +kernel) rfl⟩
def mX5_measured_l22 (o : Nat) (p1 : Int32) (p2 : Nat) (M : tr_M) (s3 : Int32 × Int32 × Int32 × Int32) : Option ((Int32 × Int32 × Int32 × Int32) ⊕ (Int32)) :=
  if (s3.2.2.2 + (1 : Int32)) < (M.1 o 0) then (
    Option.bind (tr_rd (tr_len shC p2) M p2 s3.2.2.2) (fun a4 =>
    Option.bind (mX5_weightAdded o a4 s3.1 M) (fun c6 =>
    Option.bind (tr_rd (tr_len shC p2) M p2 s3.2.2.2) (fun a8 =>
    Option.bind (show Option (Int32) from
      if p1 = 0 then (
        some (s3.2.1 + c6)
      ) else (
        if p1 = (1 : Int32) then (
          some (s3.2.1 + c6)
        ) else (
          Option.bind (mX5_heldBy o (s3.1 ||| ((1 : Int32) <<< (a8 &&& 31))) M) (fun c11 =>
          some c11
          )
        )
      )
    ) (fun (v10 : Int32) =>
      Option.bind (show Option ((Int32 × Int32) ⊕ ((Int32 × Int32 × Int32 × Int32) ⊕ (Int32))) from
        if p1 = 0 then (
          some (.inl (s3.2.2.1, s3.2.2.2))
        ) else (
          if p1 = (3 : Int32) then (
            some (.inl (s3.2.2.1, s3.2.2.2))
          ) else (
            some (.inr (.inl ((s3.1 ||| ((1 : Int32) <<< (a8 &&& 31))), (s3.2.1 + c6), (mJ9_max s3.2.2.1 v10), (s3.2.2.2 + (1 : Int32)))))
          )
        )
      ) (tr_el (fun (v13 : Int32 × Int32) =>
        some (.inl ((s3.1 ||| ((1 : Int32) <<< (a8 &&& 31))), (s3.2.1 + c6), (v13.1 + v10), (v13.2 + (1 : Int32))))
      ))
    )
    )
    )
    )
  ) else (
    some (.inr s3.2.2.1)
  )
def mX5_measured (o : Nat) (p1 : Int32) (p2 : Nat) (M : tr_M) : Option (Int32) :=
  if p1 = (4 : Int32) then (
    Option.bind (mX5_longest o p2 M) (fun c1 =>
    some c1
    )
  ) else (
    tr_loop (mX5_measured_l22 o p1 p2 M) ((0 : Int32), (0 : Int32), (0 : Int32), (0 : Int32))
  )
set_option maxRecDepth 100000 in
set_option maxHeartbeats 4000000 in
theorem C_X5_measured (o : Nat) (ho : tr_isW o) (p1 : Int32) (p2 : Nat) (M : tr_M) (r : Int32) (h : mX5_measured o p1 p2 M = some r) : tr_I yX5_measured (xX5_measured) [.ref o, .int p1, .ref p2] M (some (.int r)) M := by
  refine tr_I.of (Z := fun q : Int32 => (some (.int r) : Option Value) = some (.int q) ∧ M = M) pn_X5 rfl gdC (Nat.le_of_ble_eq_true rfl) (fun Wt => ?_) h ⟨rfl, rfl⟩
  unfold mX5_measured
  refine tr_V.iload_n (i := 1) dX5_measured_0 rfl rfl ?_
  refine tr_V.iconst (v := (4 : Int32)) dX5_measured_1 (by decide) ?_
  refine tr_V.icmp_ne (tgt := 11) dX5_measured_2 (by decide) ?_ ?_
  · refine tr_V.aload_n (i := 0) dX5_measured_5 rfl rfl ?_
    refine tr_V.aload_n (i := 2) dX5_measured_6 rfl rfl ?_
    refine tr_V.bd (fun c1 h2 => ?_)
    refine tr_V.callV (C_X5_longest o ho p2 M _ h2) yk_X5_longest iv_X5_longest ml_X5_109 (shW ho) rfl ⟨rfl, Nat.le_of_ble_eq_true rfl⟩ rfl (Nat.le_of_ble_eq_true rfl) rfl dX5_measured_7 ?_
    exact tr_V.iret dX5_measured_10 rfl (fun h => h)
  · refine tr_V.iconst (v := (0 : Int32)) dX5_measured_11 (by decide) ?_
    refine tr_V.istore_n (i := 3) dX5_measured_12 rfl (Nat.le_of_ble_eq_true rfl) rfl ?_
    refine tr_V.iconst (v := (0 : Int32)) dX5_measured_13 (by decide) ?_
    refine tr_V.istore (i := 4) dX5_measured_14 (Nat.le_of_ble_eq_true rfl) rfl ?_
    refine tr_V.iconst (v := (0 : Int32)) dX5_measured_16 (by decide) ?_
    refine tr_V.istore (i := 5) dX5_measured_17 (Nat.le_of_ble_eq_true rfl) rfl ?_
    refine tr_V.iconst (v := (0 : Int32)) dX5_measured_19 (by decide) ?_
    refine tr_V.istore (i := 6) dX5_measured_20 (Nat.le_of_ble_eq_true rfl) rfl ?_
    refine tr_V.loop (σ := Int32 × Int32 × Int32 × Int32) (step := mX5_measured_l22 o p1 p2 M) (L := fun s3 => [(0, some (.ref o)), (1, some (.int p1)), (2, some (.ref p2)), (3, some (.int s3.1)), (4, some (.int s3.2.1)), (5, some (.int s3.2.2.1)), (6, some (.int s3.2.2.2))]) (Mf := fun s3 => M) ?_ ((0 : Int32), (0 : Int32), (0 : Int32), (0 : Int32)) ⟨rfl, rfl, rfl, rfl, rfl, rfl, rfl, trivial⟩
    intro s3
    refine tr_V.iload dX5_measured_22 rfl ?_
    refine tr_V.iconst (v := (1 : Int32)) dX5_measured_24 (by decide) ?_
    refine tr_V.iadd dX5_measured_25 ?_
    refine tr_V.aload_n (i := 0) dX5_measured_26 rfl rfl ?_
    refine tr_V.getI fl_X5_9 (shW ho) rfl dX5_measured_27 ?_
    refine tr_V.icmp_ge (tgt := 109) dX5_measured_30 (by decide) ?_ ?_
    · refine tr_V.iload dX5_measured_33 rfl ?_
      refine tr_V.aload_n (i := 0) dX5_measured_35 rfl rfl ?_
      refine tr_V.aload_n (i := 2) dX5_measured_36 rfl rfl ?_
      refine tr_V.iload dX5_measured_37 rfl ?_
      refine tr_V.bd (fun a4 h5 => ?_)
      refine tr_V.ialdL h5 dX5_measured_39 ?_
      refine tr_V.iload_n (i := 3) dX5_measured_40 rfl rfl ?_
      refine tr_V.bd (fun c6 h7 => ?_)
      refine tr_V.callV (C_X5_weightAdded o ho a4 s3.1 M _ h7) yk_X5_weightAdded iv_X5_weightAdded ml_X5_113 (shW ho) rfl ⟨rfl, Nat.le_of_ble_eq_true rfl⟩ rfl (Nat.le_of_ble_eq_true rfl) rfl dX5_measured_41 ?_
      refine tr_V.iadd dX5_measured_44 ?_
      refine tr_V.istore (i := 4) dX5_measured_45 (Nat.le_of_ble_eq_true rfl) rfl ?_
      refine tr_V.iload_n (i := 3) dX5_measured_47 rfl rfl ?_
      refine tr_V.iconst (v := (1 : Int32)) dX5_measured_48 (by decide) ?_
      refine tr_V.aload_n (i := 2) dX5_measured_49 rfl rfl ?_
      refine tr_V.iload dX5_measured_50 rfl ?_
      refine tr_V.bd (fun a8 h9 => ?_)
      refine tr_V.ialdL h9 dX5_measured_52 ?_
      refine tr_V.ishl dX5_measured_53 ?_
      refine tr_V.ior dX5_measured_54 ?_
      refine tr_V.istore_n (i := 3) dX5_measured_55 rfl (Nat.le_of_ble_eq_true rfl) rfl ?_
      refine tr_V.iload_n (i := 1) dX5_measured_56 rfl rfl ?_
      refine tr_V.seq (τ := Int32) (pc' := 75) (L := fun v10 => [(0, some (.ref o)), (1, some (.int p1)), (2, some (.ref p2)), (3, some (.int (s3.1 ||| ((1 : Int32) <<< (a8 &&& 31))))), (4, some (.int (s3.2.1 + c6))), (5, some (.int s3.2.2.1)), (6, some (.int s3.2.2.2))]) (S := fun v10 => [.int v10]) (Mf := fun v10 => M) ?_ ?_
      · refine tr_V.if_eq (tgt := 65) dX5_measured_57 (by decide) ?_ ?_
        · refine tr_V.iload dX5_measured_65 rfl ?_
          refine tr_V.goto (tgt := 75) dX5_measured_67 (by decide) ?_
          exact tr_V.to (fun h => h) ⟨rfl, rfl, rfl, rfl, rfl, rfl, rfl, trivial⟩
        · refine tr_V.iload_n (i := 1) dX5_measured_60 rfl rfl ?_
          refine tr_V.iconst (v := (1 : Int32)) dX5_measured_61 (by decide) ?_
          refine tr_V.icmp_ne (tgt := 70) dX5_measured_62 (by decide) ?_ ?_
          · refine tr_V.iload dX5_measured_65 rfl ?_
            refine tr_V.goto (tgt := 75) dX5_measured_67 (by decide) ?_
            exact tr_V.to (fun h => h) ⟨rfl, rfl, rfl, rfl, rfl, rfl, rfl, trivial⟩
          · refine tr_V.aload_n (i := 0) dX5_measured_70 rfl rfl ?_
            refine tr_V.iload_n (i := 3) dX5_measured_71 rfl rfl ?_
            refine tr_V.bd (fun c11 h12 => ?_)
            refine tr_V.callV (C_X5_heldBy o ho (s3.1 ||| ((1 : Int32) <<< (a8 &&& 31))) M _ h12) yk_X5_heldBy iv_X5_heldBy ml_X5_116 (shW ho) rfl ⟨rfl, Nat.le_of_ble_eq_true rfl⟩ rfl (Nat.le_of_ble_eq_true rfl) rfl dX5_measured_72 ?_
            exact tr_V.to (fun h => h) ⟨rfl, rfl, rfl, rfl, rfl, rfl, rfl, trivial⟩
      · intro v10
        refine tr_V.istore (i := 7) dX5_measured_75 (Nat.le_of_ble_eq_true rfl) rfl ?_
        refine tr_V.iload_n (i := 1) dX5_measured_77 rfl rfl ?_
        refine tr_V.seqE (τ := Int32 × Int32) (pc' := 86) (L := fun v13 => [(0, some (.ref o)), (1, some (.int p1)), (2, some (.ref p2)), (3, some (.int (s3.1 ||| ((1 : Int32) <<< (a8 &&& 31))))), (4, some (.int (s3.2.1 + c6))), (5, some (.int v13.1)), (6, some (.int v13.2)), (7, some (.int v10))]) (S := fun v13 => []) (Mf := fun v13 => M) ?_ ?_
        · refine tr_V.if_eq (tgt := 86) dX5_measured_78 (by decide) ?_ ?_
          · exact tr_V.to (fun h => h) ⟨rfl, rfl, rfl, rfl, rfl, rfl, rfl, rfl, trivial⟩
          · refine tr_V.iload_n (i := 1) dX5_measured_81 rfl rfl ?_
            refine tr_V.iconst (v := (3 : Int32)) dX5_measured_82 (by decide) ?_
            refine tr_V.icmp_ne (tgt := 94) dX5_measured_83 (by decide) ?_ ?_
            · exact tr_V.to (fun h => h) ⟨rfl, rfl, rfl, rfl, rfl, rfl, rfl, rfl, trivial⟩
            · refine tr_V.iload dX5_measured_94 rfl ?_
              refine tr_V.iload dX5_measured_96 rfl ?_
              refine tr_V.mmax ml_X5_119 w_mmaxS in_J9 w_mmaxC (Nat.le_of_ble_eq_true rfl) (Nat.le_of_ble_eq_true rfl) dX5_measured_98 ?_
              refine tr_V.istore (i := 5) dX5_measured_101 (Nat.le_of_ble_eq_true rfl) rfl ?_
              refine tr_V.iinc (cst := (1 : Int32)) dX5_measured_103 rfl (by decide) rfl ?_
              refine tr_V.goto (tgt := 22) dX5_measured_106 (by decide) ?_
              exact tr_V.to (fun h => h) ⟨rfl, rfl, rfl, rfl, rfl, rfl, rfl, trivial⟩
        · intro v13
          refine tr_V.iload dX5_measured_86 rfl ?_
          refine tr_V.iload dX5_measured_88 rfl ?_
          refine tr_V.iadd dX5_measured_90 ?_
          refine tr_V.goto (tgt := 101) dX5_measured_91 (by decide) ?_
          refine tr_V.istore (i := 5) dX5_measured_101 (Nat.le_of_ble_eq_true rfl) rfl ?_
          refine tr_V.iinc (cst := (1 : Int32)) dX5_measured_103 rfl (by decide) rfl ?_
          refine tr_V.goto (tgt := 22) dX5_measured_106 (by decide) ?_
          exact tr_V.to (fun h => h) ⟨rfl, rfl, rfl, rfl, rfl, rfl, rfl, trivial⟩
    · refine tr_V.iload dX5_measured_109 rfl ?_
      exact tr_V.iret dX5_measured_111 rfl (fun h => h)
abbrev xX2_compare : tr_X := (cX2_compare, 4, RX2, (Option.none : Option Jvm.ClassFile.FieldType), 3, shC, 81)
theorem cw_X2_compare : Cond.code yX2_compare cX2_compare 4 (Option.none : Option Jvm.ClassFile.FieldType) ∈ tr_tbl := tr_in 971 (by decide +kernel) rfl
theorem yk_X2_compare : tr_yk yX2_compare (xX2_compare) 1 := ⟨cw_X2_compare, in_X2, ⟨by decide +kernel, by decide +kernel, by decide +kernel⟩, Nat.le_of_ble_eq_true rfl⟩
theorem iv_X2_compare : Cond.instanceMethod yX2_compare ∈ tr_tbl ∧ Cond.selects (yX2_compare).cls yX2_compare yX2_compare ∈ tr_tbl := ⟨tr_in 969 (by decide +kernel) rfl, tr_in 970 (by decide +kernel) rfl⟩
def mX2_compare_l13 (p1 : Int32) (s5 : Int32 × tr_M) : Option ((Int32 × tr_M) ⊕ (tr_M)) :=
  if s5.1 < (s5.2.1 24 3) then (
    Option.bind (mX2_unpack s5.1 s5.2) (fun c6 =>
    Option.bind (mX5_measured 26 p1 56 c6) (fun c8 =>
    Option.bind (show Option (tr_M) from
      if c8 < (c6.1 24 5) then (
        Option.bind (some (tr_st c6 24 5 c8)) (fun M11 =>
        Option.bind (some (tr_st M11 24 6 (0 : Int32))) (fun M13 =>
        some M13
        )
        )
      ) else (
        some c6
      )
    ) (fun (v10 : tr_M) =>
      if c8 = (v10.1 24 5) then (
        Option.bind (some (tr_st v10 24 6 ((v10.1 24 6) + (1 : Int32)))) (fun M15 =>
        some (.inl ((s5.1 + (1 : Int32)), M15))
        )
      ) else (
        some (.inl ((s5.1 + (1 : Int32)), v10))
      )
    )
    )
    )
  ) else (
    some (.inr s5.2)
  )
def mX2_compare (p1 : Int32) (M : tr_M) : Option (tr_M) :=
  Option.bind (some (tr_st M 24 5 (268435456 : Int32))) (fun M1 =>
  Option.bind (some (tr_st M1 24 6 (0 : Int32))) (fun M3 =>
  tr_loop (mX2_compare_l13 p1) ((0 : Int32), M3)
  )
  )
set_option maxRecDepth 100000 in
set_option maxHeartbeats 4000000 in
theorem C_X2_compare (p1 : Int32) (M M' : tr_M) (h : mX2_compare p1 M = some M') : tr_I yX2_compare (xX2_compare) [.ref 24, .int p1] M none M' := by
  refine tr_I.of (Z := fun q : tr_M => (none : Option Value) = none ∧ M' = q) pn_X2 rfl gdC (Nat.le_of_ble_eq_true rfl) (fun Wt => ?_) h ⟨rfl, rfl⟩
  unfold mX2_compare
  refine tr_V.aload_n (i := 0) dX2_compare_0 rfl rfl ?_
  refine tr_V.ldc ct_X2_47 dX2_compare_1 ?_
  refine tr_V.bd (fun M1 h2 => ?_)
  refine tr_V.putI fl_X2_35 shC_24 rfl dX2_compare_3 h2 ?_
  refine tr_V.aload_n (i := 0) dX2_compare_6 rfl rfl ?_
  refine tr_V.iconst (v := (0 : Int32)) dX2_compare_7 (by decide) ?_
  refine tr_V.bd (fun M3 h4 => ?_)
  refine tr_V.putI fl_X2_38 shC_24 rfl dX2_compare_8 h4 ?_
  refine tr_V.iconst (v := (0 : Int32)) dX2_compare_11 (by decide) ?_
  refine tr_V.istore_n (i := 2) dX2_compare_12 rfl (Nat.le_of_ble_eq_true rfl) rfl ?_
  refine tr_V.loop (σ := Int32 × tr_M) (step := mX2_compare_l13 p1) (L := fun s5 => [(0, some (.ref 24)), (1, some (.int p1)), (2, some (.int s5.1))]) (Mf := fun s5 => s5.2) ?_ ((0 : Int32), M3) ⟨rfl, rfl, rfl, trivial⟩
  intro s5
  refine tr_V.iload_n (i := 2) dX2_compare_13 rfl rfl ?_
  refine tr_V.aload_n (i := 0) dX2_compare_14 rfl rfl ?_
  refine tr_V.getI fl_X2_28 shC_24 rfl dX2_compare_15 ?_
  refine tr_V.icmp_ge (tgt := 81) dX2_compare_18 (by decide) ?_ ?_
  · refine tr_V.aload_n (i := 0) dX2_compare_21 rfl rfl ?_
    refine tr_V.iload_n (i := 2) dX2_compare_22 rfl rfl ?_
    refine tr_V.bd (fun c6 h7 => ?_)
    refine tr_V.callV (C_X2_unpack s5.1 s5.2 _ h7) yk_X2_unpack iv_X2_unpack ml_X2_82 shC_24 rfl ⟨rfl, Nat.le_of_ble_eq_true rfl⟩ rfl (Nat.le_of_ble_eq_true rfl) rfl dX2_compare_23 ?_
    refine tr_V.aload_n (i := 0) dX2_compare_26 rfl rfl ?_
    refine tr_V.getR (Nat.succ_pos _) fl_X2_22 shC_24 rfl dX2_compare_27 ?_
    refine tr_V.iload_n (i := 1) dX2_compare_30 rfl rfl ?_
    refine tr_V.aload_n (i := 0) dX2_compare_31 rfl rfl ?_
    refine tr_V.getR (Nat.succ_pos _) fl_X2_44 shC_24 rfl dX2_compare_32 ?_
    refine tr_V.bd (fun c8 h9 => ?_)
    refine tr_V.callV (C_X5_measured 26 isW_26 p1 56 c6 _ h9) yk_X5_measured iv_X5_measured ml_X2_102 shC_26 rfl ⟨rfl, Nat.le_of_ble_eq_true rfl⟩ rfl (Nat.le_of_ble_eq_true rfl) rfl dX2_compare_35 ?_
    refine tr_V.istore_n (i := 3) dX2_compare_38 rfl (Nat.le_of_ble_eq_true rfl) rfl ?_
    refine tr_V.iload_n (i := 3) dX2_compare_39 rfl rfl ?_
    refine tr_V.aload_n (i := 0) dX2_compare_40 rfl rfl ?_
    refine tr_V.getI fl_X2_35 shC_24 rfl dX2_compare_41 ?_
    refine tr_V.seq (τ := tr_M) (pc' := 57) (L := fun v10 => [(0, some (.ref 24)), (1, some (.int p1)), (2, some (.int s5.1)), (3, some (.int c8))]) (S := fun v10 => []) (Mf := fun v10 => v10) ?_ ?_
    · refine tr_V.icmp_ge (tgt := 57) dX2_compare_44 (by decide) ?_ ?_
      · refine tr_V.aload_n (i := 0) dX2_compare_47 rfl rfl ?_
        refine tr_V.iload_n (i := 3) dX2_compare_48 rfl rfl ?_
        refine tr_V.bd (fun M11 h12 => ?_)
        refine tr_V.putI fl_X2_35 shC_24 rfl dX2_compare_49 h12 ?_
        refine tr_V.aload_n (i := 0) dX2_compare_52 rfl rfl ?_
        refine tr_V.iconst (v := (0 : Int32)) dX2_compare_53 (by decide) ?_
        refine tr_V.bd (fun M13 h14 => ?_)
        refine tr_V.putI fl_X2_38 shC_24 rfl dX2_compare_54 h14 ?_
        exact tr_V.to (fun h => h) ⟨rfl, rfl, rfl, rfl, trivial⟩
      · exact tr_V.to (fun h => h) ⟨rfl, rfl, rfl, rfl, trivial⟩
    · intro v10
      refine tr_V.iload_n (i := 3) dX2_compare_57 rfl rfl ?_
      refine tr_V.aload_n (i := 0) dX2_compare_58 rfl rfl ?_
      refine tr_V.getI fl_X2_35 shC_24 rfl dX2_compare_59 ?_
      refine tr_V.icmp_ne (tgt := 75) dX2_compare_62 (by decide) ?_ ?_
      · refine tr_V.aload_n (i := 0) dX2_compare_65 rfl rfl ?_
        refine tr_V.dup rfl dX2_compare_66 ?_
        refine tr_V.getI fl_X2_38 shC_24 rfl dX2_compare_67 ?_
        refine tr_V.iconst (v := (1 : Int32)) dX2_compare_70 (by decide) ?_
        refine tr_V.iadd dX2_compare_71 ?_
        refine tr_V.bd (fun M15 h16 => ?_)
        refine tr_V.putI fl_X2_38 shC_24 rfl dX2_compare_72 h16 ?_
        refine tr_V.iinc (cst := (1 : Int32)) dX2_compare_75 rfl (by decide) rfl ?_
        refine tr_V.goto (tgt := 13) dX2_compare_78 (by decide) ?_
        exact tr_V.to (fun h => h) ⟨rfl, rfl, rfl, trivial⟩
      · refine tr_V.iinc (cst := (1 : Int32)) dX2_compare_75 rfl (by decide) rfl ?_
        refine tr_V.goto (tgt := 13) dX2_compare_78 (by decide) ?_
        exact tr_V.to (fun h => h) ⟨rfl, rfl, rfl, trivial⟩
  · exact tr_V.vret dX2_compare_81 rfl (fun h => h)
abbrev xX5_clear : tr_X := (cX5_clear, 3, RX5, (Option.none : Option Jvm.ClassFile.FieldType), 2, shC, 81)
theorem cw_X5_clear : Cond.code yX5_clear cX5_clear 3 (Option.none : Option Jvm.ClassFile.FieldType) ∈ tr_tbl := tr_in 465 (by decide +kernel) rfl
theorem yk_X5_clear : tr_yk yX5_clear (xX5_clear) 1 := ⟨cw_X5_clear, in_X5, ⟨by decide +kernel, by decide +kernel, by decide +kernel⟩, Nat.le_of_ble_eq_true rfl⟩
theorem iv_X5_clear : Cond.instanceMethod yX5_clear ∈ tr_tbl ∧ Cond.selects (yX5_clear).cls yX5_clear yX5_clear ∈ tr_tbl := ⟨tr_in 463 (by decide +kernel) rfl, tr_in 464 (by decide +kernel) rfl⟩
def mX5_clear_l17 (o : Nat) (s7 : Int32 × tr_M) : Option ((Int32 × tr_M) ⊕ (tr_M)) :=
  if s7.1 < (10 : Int32) then (
    Option.bind (tr_ra 10 (fun i => o + 2 + i) s7.1) (fun r8 =>
    Option.bind (mJ7_fill_53178 shC r8 (0 : Int32) s7.2) (fun c10 =>
    Option.bind (tr_wr 10 c10 (o + 12) s7.1 (0 : Int32)) (fun M12 =>
    Option.bind (tr_wr 10 M12 (o + 13) s7.1 (0 : Int32)) (fun M14 =>
    some (.inl ((s7.1 + (1 : Int32)), M14))
    )
    )
    )
    )
  ) else (
    some (.inr s7.2)
  )
def mX5_clear (o : Nat) (p1 : Int32) (M : tr_M) : Option (tr_M) :=
  Option.bind (some (tr_st M o 0 p1)) (fun M1 =>
  Option.bind (some (tr_st M1 o 1 (0 : Int32))) (fun M3 =>
  Option.bind (some (tr_st M3 o 2 (0 : Int32))) (fun M5 =>
  tr_loop (mX5_clear_l17 o) ((0 : Int32), M5)
  )
  )
  )
set_option maxRecDepth 100000 in
set_option maxHeartbeats 4000000 in
theorem C_X5_clear (o : Nat) (ho : tr_isW o) (p1 : Int32) (M M' : tr_M) (h : mX5_clear o p1 M = some M') : tr_I yX5_clear (xX5_clear) [.ref o, .int p1] M none M' := by
  refine tr_I.of (Z := fun q : tr_M => (none : Option Value) = none ∧ M' = q) pn_X5 rfl gdC (Nat.le_of_ble_eq_true rfl) (fun Wt => ?_) h ⟨rfl, rfl⟩
  unfold mX5_clear
  refine tr_V.aload_n (i := 0) dX5_clear_0 rfl rfl ?_
  refine tr_V.iload_n (i := 1) dX5_clear_1 rfl rfl ?_
  refine tr_V.bd (fun M1 h2 => ?_)
  refine tr_V.putI fl_X5_9 (shW ho) rfl dX5_clear_2 h2 ?_
  refine tr_V.aload_n (i := 0) dX5_clear_5 rfl rfl ?_
  refine tr_V.iconst (v := (0 : Int32)) dX5_clear_6 (by decide) ?_
  refine tr_V.bd (fun M3 h4 => ?_)
  refine tr_V.putI fl_X5_15 (shW ho) rfl dX5_clear_7 h4 ?_
  refine tr_V.aload_n (i := 0) dX5_clear_10 rfl rfl ?_
  refine tr_V.iconst (v := (0 : Int32)) dX5_clear_11 (by decide) ?_
  refine tr_V.bd (fun M5 h6 => ?_)
  refine tr_V.putI fl_X5_18 (shW ho) rfl dX5_clear_12 h6 ?_
  refine tr_V.iconst (v := (0 : Int32)) dX5_clear_15 (by decide) ?_
  refine tr_V.istore_n (i := 2) dX5_clear_16 rfl (Nat.le_of_ble_eq_true rfl) rfl ?_
  refine tr_V.loop (σ := Int32 × tr_M) (step := mX5_clear_l17 o) (L := fun s7 => [(0, some (.ref o)), (2, some (.int s7.1))]) (Mf := fun s7 => s7.2) ?_ ((0 : Int32), M5) ⟨rfl, rfl, trivial⟩
  intro s7
  refine tr_V.iload_n (i := 2) dX5_clear_17 rfl rfl ?_
  refine tr_V.bipush (v := (10 : Int32)) dX5_clear_18 (by decide) ?_
  refine tr_V.icmp_ge (tgt := 53) dX5_clear_20 (by decide) ?_ ?_
  · refine tr_V.aload_n (i := 0) dX5_clear_23 rfl rfl ?_
    refine tr_V.getR (Nat.succ_pos _) fl_X5_23 (shW ho) rfl dX5_clear_24 ?_
    refine tr_V.iload_n (i := 2) dX5_clear_27 rfl rfl ?_
    refine tr_V.bd (fun r8 h9 => ?_)
    refine tr_V.aald (ty := .array .int) h9 (shW_1 ho) (tr_ra_pos h9 (by omega)) (fun _ => rfl) rfl dX5_clear_28 ?_
    refine tr_V.iconst (v := (0 : Int32)) dX5_clear_29 (by decide) ?_
    refine tr_V.bd (fun c10 h11 => ?_)
    refine tr_V.callS (C_J7_fill_53178 shC 81 gdC r8 (0 : Int32) s7.2 _ h11) yk_J7_fill_53178 sc_J7_fill_53178 ml_X5_48 ⟨rfl, Nat.le_of_ble_eq_true rfl⟩ rfl (Nat.le_of_ble_eq_true rfl) rfl dX5_clear_30 ?_
    refine tr_V.aload_n (i := 0) dX5_clear_33 rfl rfl ?_
    refine tr_V.getR (Nat.succ_pos _) fl_X5_26 (shW ho) rfl dX5_clear_34 ?_
    refine tr_V.iload_n (i := 2) dX5_clear_37 rfl rfl ?_
    refine tr_V.iconst (v := (0 : Int32)) dX5_clear_38 (by decide) ?_
    refine tr_V.bd (fun M12 h13 => ?_)
    refine tr_V.iast h13 (shW_12 ho) dX5_clear_39 ?_
    refine tr_V.aload_n (i := 0) dX5_clear_40 rfl rfl ?_
    refine tr_V.getR (Nat.succ_pos _) fl_X5_30 (shW ho) rfl dX5_clear_41 ?_
    refine tr_V.iload_n (i := 2) dX5_clear_44 rfl rfl ?_
    refine tr_V.iconst (v := (0 : Int32)) dX5_clear_45 (by decide) ?_
    refine tr_V.bd (fun M14 h15 => ?_)
    refine tr_V.iast h15 (shW_13 ho) dX5_clear_46 ?_
    refine tr_V.iinc (cst := (1 : Int32)) dX5_clear_47 rfl (by decide) rfl ?_
    refine tr_V.goto (tgt := 17) dX5_clear_50 (by decide) ?_
    exact tr_V.to (fun h => h) ⟨rfl, rfl, trivial⟩
  · exact tr_V.vret dX5_clear_53 rfl (fun h => h)
abbrev xX3_sign : tr_X := (cX3_sign, 1, RX3, (some .int), 1, shC, 81)
theorem cw_X3_sign : Cond.code yX3_sign cX3_sign 1 (some .int) ∈ tr_tbl := tr_in 476 (by decide +kernel) rfl
theorem yk_X3_sign : tr_yk yX3_sign (xX3_sign) 0 := ⟨cw_X3_sign, in_X3, ⟨by decide +kernel, by decide +kernel, by decide +kernel⟩, Nat.le_of_ble_eq_true rfl⟩
theorem iv_X3_sign : Cond.instanceMethod yX3_sign ∈ tr_tbl ∧ Cond.selects (yX3_sign).cls yX3_sign yX3_sign ∈ tr_tbl := ⟨tr_in 475 (by decide +kernel) rfl, tr_in 2 (by decide +kernel) rfl⟩
def mX3_sign  (M : tr_M) : Option (Int32) :=
  Option.bind (tr_gd (tr_isL (M.1 4 1).toNatClampNeg)) (fun _ =>
  if (M.1 4 2) < (M.1 ((M.1 4 1).toNatClampNeg) 1) then (
    Option.bind (tr_gd (tr_isL (M.1 4 1).toNatClampNeg)) (fun _ =>
    Option.bind (tr_rd (tr_len shC ((M.1 4 1).toNatClampNeg + 1)) M ((M.1 4 1).toNatClampNeg + 1) (M.1 4 2)) (fun a3 =>
    some a3
    )
    )
  ) else (
    some (-9 : Int32)
  )
  )
set_option maxRecDepth 100000 in
set_option maxHeartbeats 4000000 in
theorem C_X3_sign  (M : tr_M) (r : Int32) (h : mX3_sign M = some r) : tr_I yX3_sign (xX3_sign) [.ref 4] M (some (.int r)) M := by
  refine tr_I.of (Z := fun q : Int32 => (some (.int r) : Option Value) = some (.int q) ∧ M = M) pn_X3 rfl gdC (Nat.le_of_ble_eq_true rfl) (fun Wt => ?_) h ⟨rfl, rfl⟩
  unfold mX3_sign
  refine tr_V.aload_n (i := 0) dX3_sign_0 rfl rfl ?_
  refine tr_V.getI fl_X3_22 shC_4 rfl dX3_sign_1 ?_
  refine tr_V.aload_n (i := 0) dX3_sign_4 rfl rfl ?_
  refine tr_V.getM fl_X3_18 shC_4 rfl dX3_sign_5 ?_
  refine tr_V.gd (fun h1 => ?_)
  refine tr_V.getI fl_X3_37 (shL (isL_of h1)) rfl dX3_sign_8 ?_
  refine tr_V.icmp_ge (tgt := 29) dX3_sign_11 (by decide) ?_ ?_
  · refine tr_V.aload_n (i := 0) dX3_sign_14 rfl rfl ?_
    refine tr_V.getM fl_X3_18 shC_4 rfl dX3_sign_15 ?_
    refine tr_V.gd (fun h2 => ?_)
    refine tr_V.getR (Nat.succ_pos _) fl_X3_45 (shL (isL_of h2)) rfl dX3_sign_18 ?_
    refine tr_V.aload_n (i := 0) dX3_sign_21 rfl rfl ?_
    refine tr_V.getI fl_X3_22 shC_4 rfl dX3_sign_22 ?_
    refine tr_V.bd (fun a3 h4 => ?_)
    refine tr_V.ialdL h4 dX3_sign_25 ?_
    refine tr_V.goto (tgt := 31) dX3_sign_26 (by decide) ?_
    exact tr_V.iret dX3_sign_31 rfl (fun h => h)
  · refine tr_V.bipush (v := (-9 : Int32)) dX3_sign_29 (by decide) ?_
    exact tr_V.iret dX3_sign_31 rfl (fun h => h)
abbrev xX3_skipBlanks : tr_X := (cX3_skipBlanks, 2, RX3, (Option.none : Option Jvm.ClassFile.FieldType), 2, shC, 81)
theorem cw_X3_skipBlanks : Cond.code yX3_skipBlanks cX3_skipBlanks 2 (Option.none : Option Jvm.ClassFile.FieldType) ∈ tr_tbl := tr_in 472 (by decide +kernel) rfl
theorem yk_X3_skipBlanks : tr_yk yX3_skipBlanks (xX3_skipBlanks) 0 := ⟨cw_X3_skipBlanks, in_X3, ⟨by decide +kernel, by decide +kernel, by decide +kernel⟩, Nat.le_of_ble_eq_true rfl⟩
theorem iv_X3_skipBlanks : Cond.instanceMethod yX3_skipBlanks ∈ tr_tbl ∧ Cond.selects (yX3_skipBlanks).cls yX3_skipBlanks yX3_skipBlanks ∈ tr_tbl := ⟨tr_in 471 (by decide +kernel) rfl, tr_in 1 (by decide +kernel) rfl⟩
def mX3_skipBlanks_l2  (s1 : Int32 × tr_M) : Option ((Int32 × tr_M) ⊕ (tr_M)) :=
  if s1.1 < (120 : Int32) then (
    Option.bind (mX3_sign s1.2) (fun c2 =>
    if c2 = (32 : Int32) then (
      Option.bind (some (tr_st s1.2 4 2 ((s1.2.1 4 2) + (1 : Int32)))) (fun M4 =>
      some (.inl ((s1.1 + (1 : Int32)), M4))
      )
    ) else (
      some (.inr s1.2)
    )
    )
  ) else (
    some (.inr s1.2)
  )
def mX3_skipBlanks  (M : tr_M) : Option (tr_M) :=
  tr_loop (mX3_skipBlanks_l2) ((0 : Int32), M)
set_option maxRecDepth 100000 in
set_option maxHeartbeats 4000000 in
theorem C_X3_skipBlanks  (M M' : tr_M) (h : mX3_skipBlanks M = some M') : tr_I yX3_skipBlanks (xX3_skipBlanks) [.ref 4] M none M' := by
  refine tr_I.of (Z := fun q : tr_M => (none : Option Value) = none ∧ M' = q) pn_X3 rfl gdC (Nat.le_of_ble_eq_true rfl) (fun Wt => ?_) h ⟨rfl, rfl⟩
  unfold mX3_skipBlanks
  refine tr_V.iconst (v := (0 : Int32)) dX3_skipBlanks_0 (by decide) ?_
  refine tr_V.istore_n (i := 1) dX3_skipBlanks_1 rfl (Nat.le_of_ble_eq_true rfl) rfl ?_
  refine tr_V.loop (σ := Int32 × tr_M) (step := mX3_skipBlanks_l2) (L := fun s1 => [(0, some (.ref 4)), (1, some (.int s1.1))]) (Mf := fun s1 => s1.2) ?_ ((0 : Int32), M) ⟨rfl, rfl, trivial⟩
  intro s1
  refine tr_V.iload_n (i := 1) dX3_skipBlanks_2 rfl rfl ?_
  refine tr_V.bipush (v := (120 : Int32)) dX3_skipBlanks_3 (by decide) ?_
  refine tr_V.icmp_ge (tgt := 33) dX3_skipBlanks_5 (by decide) ?_ ?_
  · refine tr_V.aload_n (i := 0) dX3_skipBlanks_8 rfl rfl ?_
    refine tr_V.bd (fun c2 h3 => ?_)
    refine tr_V.callV (C_X3_sign s1.2 _ h3) yk_X3_sign iv_X3_sign ml_X3_49 shC_4 rfl ⟨rfl, Nat.le_of_ble_eq_true rfl⟩ rfl (Nat.le_of_ble_eq_true rfl) rfl dX3_skipBlanks_9 ?_
    refine tr_V.bipush (v := (32 : Int32)) dX3_skipBlanks_12 (by decide) ?_
    refine tr_V.icmp_ne (tgt := 33) dX3_skipBlanks_14 (by decide) ?_ ?_
    · refine tr_V.aload_n (i := 0) dX3_skipBlanks_17 rfl rfl ?_
      refine tr_V.dup rfl dX3_skipBlanks_18 ?_
      refine tr_V.getI fl_X3_22 shC_4 rfl dX3_skipBlanks_19 ?_
      refine tr_V.iconst (v := (1 : Int32)) dX3_skipBlanks_22 (by decide) ?_
      refine tr_V.iadd dX3_skipBlanks_23 ?_
      refine tr_V.bd (fun M4 h5 => ?_)
      refine tr_V.putI fl_X3_22 shC_4 rfl dX3_skipBlanks_24 h5 ?_
      refine tr_V.iinc (cst := (1 : Int32)) dX3_skipBlanks_27 rfl (by decide) rfl ?_
      refine tr_V.goto (tgt := 2) dX3_skipBlanks_30 (by decide) ?_
      exact tr_V.to (fun h => h) ⟨rfl, rfl, trivial⟩
    · exact tr_V.vret dX3_skipBlanks_33 rfl (fun h => h)
  · exact tr_V.vret dX3_skipBlanks_33 rfl (fun h => h)
abbrev xX3_isFigure : tr_X := (cX3_isFigure, 1, RX3, (some .boolean), 2, shC, 81)
theorem cw_X3_isFigure : Cond.code yX3_isFigure cX3_isFigure 1 (some .boolean) ∈ tr_tbl := tr_in 484 (by decide +kernel) rfl
theorem yk_X3_isFigure : tr_yk yX3_isFigure (xX3_isFigure) 0 := ⟨cw_X3_isFigure, in_X3, ⟨by decide +kernel, by decide +kernel, by decide +kernel⟩, Nat.le_of_ble_eq_true rfl⟩
theorem iv_X3_isFigure : Cond.instanceMethod yX3_isFigure ∈ tr_tbl ∧ Cond.selects (yX3_isFigure).cls yX3_isFigure yX3_isFigure ∈ tr_tbl := ⟨tr_in 483 (by decide +kernel) rfl, tr_in 4 (by decide +kernel) rfl⟩
def mX3_isFigure  (M : tr_M) : Option (Int32) :=
  Option.bind (mX3_sign M) (fun c1 =>
  if c1 < (48 : Int32) then (
    some (0 : Int32)
  ) else (
    Option.bind (mX3_sign M) (fun c3 =>
    if (57 : Int32) < c3 then (
      some (0 : Int32)
    ) else (
      some (1 : Int32)
    )
    )
  )
  )
set_option maxRecDepth 100000 in
set_option maxHeartbeats 4000000 in
theorem C_X3_isFigure  (M : tr_M) (r : Int32) (h : mX3_isFigure M = some r) : tr_I yX3_isFigure (xX3_isFigure) [.ref 4] M (some (.int r)) M := by
  refine tr_I.of (Z := fun q : Int32 => (some (.int r) : Option Value) = some (.int q) ∧ M = M) pn_X3 rfl gdC (Nat.le_of_ble_eq_true rfl) (fun Wt => ?_) h ⟨rfl, rfl⟩
  unfold mX3_isFigure
  refine tr_V.aload_n (i := 0) dX3_isFigure_0 rfl rfl ?_
  refine tr_V.bd (fun c1 h2 => ?_)
  refine tr_V.callV (C_X3_sign M _ h2) yk_X3_sign iv_X3_sign ml_X3_49 shC_4 rfl ⟨rfl, Nat.le_of_ble_eq_true rfl⟩ rfl (Nat.le_of_ble_eq_true rfl) rfl dX3_isFigure_1 ?_
  refine tr_V.bipush (v := (48 : Int32)) dX3_isFigure_4 (by decide) ?_
  refine tr_V.icmp_lt (tgt := 22) dX3_isFigure_6 (by decide) ?_ ?_
  · refine tr_V.iconst (v := (0 : Int32)) dX3_isFigure_22 (by decide) ?_
    exact tr_V.zret (by decide) dX3_isFigure_23 rfl (fun h => h)
  · refine tr_V.aload_n (i := 0) dX3_isFigure_9 rfl rfl ?_
    refine tr_V.bd (fun c3 h4 => ?_)
    refine tr_V.callV (C_X3_sign M _ h4) yk_X3_sign iv_X3_sign ml_X3_49 shC_4 rfl ⟨rfl, Nat.le_of_ble_eq_true rfl⟩ rfl (Nat.le_of_ble_eq_true rfl) rfl dX3_isFigure_10 ?_
    refine tr_V.bipush (v := (57 : Int32)) dX3_isFigure_13 (by decide) ?_
    refine tr_V.icmp_gt (tgt := 22) dX3_isFigure_15 (by decide) ?_ ?_
    · refine tr_V.iconst (v := (0 : Int32)) dX3_isFigure_22 (by decide) ?_
      exact tr_V.zret (by decide) dX3_isFigure_23 rfl (fun h => h)
    · refine tr_V.iconst (v := (1 : Int32)) dX3_isFigure_18 (by decide) ?_
      refine tr_V.goto (tgt := 23) dX3_isFigure_19 (by decide) ?_
      exact tr_V.zret (by decide) dX3_isFigure_23 rfl (fun h => h)
abbrev xX3_takeFigure : tr_X := (cX3_takeFigure, 2, RX3, (some .int), 2, shC, 81)
theorem cw_X3_takeFigure : Cond.code yX3_takeFigure cX3_takeFigure 2 (some .int) ∈ tr_tbl := tr_in 488 (by decide +kernel) rfl
theorem yk_X3_takeFigure : tr_yk yX3_takeFigure (xX3_takeFigure) 0 := ⟨cw_X3_takeFigure, in_X3, ⟨by decide +kernel, by decide +kernel, by decide +kernel⟩, Nat.le_of_ble_eq_true rfl⟩
theorem iv_X3_takeFigure : Cond.instanceMethod yX3_takeFigure ∈ tr_tbl ∧ Cond.selects (yX3_takeFigure).cls yX3_takeFigure yX3_takeFigure ∈ tr_tbl := ⟨tr_in 487 (by decide +kernel) rfl, tr_in 5 (by decide +kernel) rfl⟩
def mX3_takeFigure  (M : tr_M) : Option (Int32 × tr_M) :=
  Option.bind (mX3_sign M) (fun c1 =>
  Option.bind (some (tr_st M 4 2 ((M.1 4 2) + (1 : Int32)))) (fun M3 =>
  some ((c1 - (48 : Int32)), M3)
  )
  )
set_option maxRecDepth 100000 in
set_option maxHeartbeats 4000000 in
theorem C_X3_takeFigure  (M : tr_M) (r : Int32 × tr_M) (h : mX3_takeFigure M = some r) : tr_I yX3_takeFigure (xX3_takeFigure) [.ref 4] M (some (.int r.1)) r.2 := by
  refine tr_I.of (Z := fun q : Int32 × tr_M => (some (.int r.1) : Option Value) = some (.int q.1) ∧ r.2 = q.2) pn_X3 rfl gdC (Nat.le_of_ble_eq_true rfl) (fun Wt => ?_) h ⟨rfl, rfl⟩
  unfold mX3_takeFigure
  refine tr_V.aload_n (i := 0) dX3_takeFigure_0 rfl rfl ?_
  refine tr_V.bd (fun c1 h2 => ?_)
  refine tr_V.callV (C_X3_sign M _ h2) yk_X3_sign iv_X3_sign ml_X3_49 shC_4 rfl ⟨rfl, Nat.le_of_ble_eq_true rfl⟩ rfl (Nat.le_of_ble_eq_true rfl) rfl dX3_takeFigure_1 ?_
  refine tr_V.bipush (v := (48 : Int32)) dX3_takeFigure_4 (by decide) ?_
  refine tr_V.isub dX3_takeFigure_6 ?_
  refine tr_V.istore_n (i := 1) dX3_takeFigure_7 rfl (Nat.le_of_ble_eq_true rfl) rfl ?_
  refine tr_V.aload_n (i := 0) dX3_takeFigure_8 rfl rfl ?_
  refine tr_V.dup rfl dX3_takeFigure_9 ?_
  refine tr_V.getI fl_X3_22 shC_4 rfl dX3_takeFigure_10 ?_
  refine tr_V.iconst (v := (1 : Int32)) dX3_takeFigure_13 (by decide) ?_
  refine tr_V.iadd dX3_takeFigure_14 ?_
  refine tr_V.bd (fun M3 h4 => ?_)
  refine tr_V.putI fl_X3_22 shC_4 rfl dX3_takeFigure_15 h4 ?_
  refine tr_V.iload_n (i := 1) dX3_takeFigure_18 rfl rfl ?_
  exact tr_V.iret dX3_takeFigure_19 rfl (fun h => h)
