abbrev xX3_readHead : tr_X := (cX3_readHead, 2, RX3, (some .boolean), 3, shC, 81)
theorem cw_X3_readHead : Cond.code yX3_readHead cX3_readHead 2 (some .boolean) ∈ tr_tbl := tr_in 480 (by decide +kernel) rfl
theorem yk_X3_readHead : tr_yk yX3_readHead (xX3_readHead) 0 := ⟨cw_X3_readHead, in_X3, ⟨by decide +kernel, by decide +kernel, by decide +kernel⟩, Nat.le_of_ble_eq_true rfl⟩
theorem iv_X3_readHead : Cond.instanceMethod yX3_readHead ∈ tr_tbl ∧ Cond.selects (yX3_readHead).cls yX3_readHead yX3_readHead ∈ tr_tbl := ⟨tr_in 479 (by decide +kernel) rfl, tr_in 3 (by decide +kernel) rfl⟩
def mX3_readHead  (M : tr_M) : Option (Int32 × tr_M) :=
  Option.bind (mX3_sign M) (fun c1 =>
  if c1 = (110 : Int32) then (
    Option.bind (some (tr_st M 4 2 ((M.1 4 2) + (1 : Int32)))) (fun M3 =>
    Option.bind (mX3_isFigure M3) (fun c5 =>
    if c5 = 0 then (
      some ((0 : Int32), M3)
    ) else (
      Option.bind (mX3_takeFigure M3) (fun c7 =>
      Option.bind (mX3_isFigure c7.2) (fun c9 =>
      Option.bind (show Option (Int32 × tr_M) from
        if c9 = 0 then (
          some (c7.1, c7.2)
        ) else (
          Option.bind (mX3_takeFigure c7.2) (fun c12 =>
          some ((((10 : Int32) * c7.1) + c12.1), c12.2)
          )
        )
      ) (fun (v11 : Int32 × tr_M) =>
        if v11.1 < (1 : Int32) then (
          some ((0 : Int32), v11.2)
        ) else (
          if (10 : Int32) < v11.1 then (
            some ((0 : Int32), v11.2)
          ) else (
            Option.bind (mX5_clear 5 v11.1 v11.2) (fun c14 =>
            some ((1 : Int32), c14)
            )
          )
        )
      )
      )
      )
    )
    )
    )
  ) else (
    some ((0 : Int32), M)
  )
  )
set_option maxRecDepth 100000 in
set_option maxHeartbeats 4000000 in
theorem C_X3_readHead  (M : tr_M) (r : Int32 × tr_M) (h : mX3_readHead M = some r) : tr_I yX3_readHead (xX3_readHead) [.ref 4] M (some (.int r.1)) r.2 := by
  refine tr_I.of (Z := fun q : Int32 × tr_M => (some (.int r.1) : Option Value) = some (.int q.1) ∧ r.2 = q.2) pn_X3 rfl gdC (Nat.le_of_ble_eq_true rfl) (fun Wt => ?_) h ⟨rfl, rfl⟩
  unfold mX3_readHead
  refine tr_V.aload_n (i := 0) dX3_readHead_0 rfl rfl ?_
  refine tr_V.bd (fun c1 h2 => ?_)
  refine tr_V.callV (C_X3_sign M _ h2) yk_X3_sign iv_X3_sign ml_X3_49 shC_4 rfl ⟨rfl, Nat.le_of_ble_eq_true rfl⟩ rfl (Nat.le_of_ble_eq_true rfl) rfl dX3_readHead_1 ?_
  refine tr_V.bipush (v := (110 : Int32)) dX3_readHead_4 (by decide) ?_
  refine tr_V.icmp_eq (tgt := 11) dX3_readHead_6 (by decide) ?_ ?_
  · refine tr_V.aload_n (i := 0) dX3_readHead_11 rfl rfl ?_
    refine tr_V.dup rfl dX3_readHead_12 ?_
    refine tr_V.getI fl_X3_22 shC_4 rfl dX3_readHead_13 ?_
    refine tr_V.iconst (v := (1 : Int32)) dX3_readHead_16 (by decide) ?_
    refine tr_V.iadd dX3_readHead_17 ?_
    refine tr_V.bd (fun M3 h4 => ?_)
    refine tr_V.putI fl_X3_22 shC_4 rfl dX3_readHead_18 h4 ?_
    refine tr_V.aload_n (i := 0) dX3_readHead_21 rfl rfl ?_
    refine tr_V.bd (fun c5 h6 => ?_)
    refine tr_V.callV (C_X3_isFigure M3 _ h6) yk_X3_isFigure iv_X3_isFigure ml_X3_57 shC_4 rfl ⟨rfl, Nat.le_of_ble_eq_true rfl⟩ rfl (Nat.le_of_ble_eq_true rfl) rfl dX3_readHead_22 ?_
    refine tr_V.if_ne (tgt := 30) dX3_readHead_25 (by decide) ?_ ?_
    · refine tr_V.iconst (v := (0 : Int32)) dX3_readHead_28 (by decide) ?_
      exact tr_V.zret (by decide) dX3_readHead_29 rfl (fun h => h)
    · refine tr_V.aload_n (i := 0) dX3_readHead_30 rfl rfl ?_
      refine tr_V.bd (fun c7 h8 => ?_)
      refine tr_V.callV (C_X3_takeFigure M3 _ h8) yk_X3_takeFigure iv_X3_takeFigure ml_X3_60 shC_4 rfl ⟨rfl, Nat.le_of_ble_eq_true rfl⟩ rfl (Nat.le_of_ble_eq_true rfl) rfl dX3_readHead_31 ?_
      refine tr_V.istore_n (i := 1) dX3_readHead_34 rfl (Nat.le_of_ble_eq_true rfl) rfl ?_
      refine tr_V.aload_n (i := 0) dX3_readHead_35 rfl rfl ?_
      refine tr_V.bd (fun c9 h10 => ?_)
      refine tr_V.callV (C_X3_isFigure c7.2 _ h10) yk_X3_isFigure iv_X3_isFigure ml_X3_57 shC_4 rfl ⟨rfl, Nat.le_of_ble_eq_true rfl⟩ rfl (Nat.le_of_ble_eq_true rfl) rfl dX3_readHead_36 ?_
      refine tr_V.seq (τ := Int32 × tr_M) (pc' := 52) (L := fun v11 => [(0, some (.ref 4)), (1, some (.int v11.1))]) (S := fun v11 => []) (Mf := fun v11 => v11.2) ?_ ?_
      · refine tr_V.if_eq (tgt := 52) dX3_readHead_39 (by decide) ?_ ?_
        · exact tr_V.to (fun h => h) ⟨rfl, rfl, trivial⟩
        · refine tr_V.bipush (v := (10 : Int32)) dX3_readHead_42 (by decide) ?_
          refine tr_V.iload_n (i := 1) dX3_readHead_44 rfl rfl ?_
          refine tr_V.imul dX3_readHead_45 ?_
          refine tr_V.aload_n (i := 0) dX3_readHead_46 rfl rfl ?_
          refine tr_V.bd (fun c12 h13 => ?_)
          refine tr_V.callV (C_X3_takeFigure c7.2 _ h13) yk_X3_takeFigure iv_X3_takeFigure ml_X3_60 shC_4 rfl ⟨rfl, Nat.le_of_ble_eq_true rfl⟩ rfl (Nat.le_of_ble_eq_true rfl) rfl dX3_readHead_47 ?_
          refine tr_V.iadd dX3_readHead_50 ?_
          refine tr_V.istore_n (i := 1) dX3_readHead_51 rfl (Nat.le_of_ble_eq_true rfl) rfl ?_
          exact tr_V.to (fun h => h) ⟨rfl, rfl, trivial⟩
      · intro v11
        refine tr_V.iload_n (i := 1) dX3_readHead_52 rfl rfl ?_
        refine tr_V.iconst (v := (1 : Int32)) dX3_readHead_53 (by decide) ?_
        refine tr_V.icmp_lt (tgt := 63) dX3_readHead_54 (by decide) ?_ ?_
        · refine tr_V.iconst (v := (0 : Int32)) dX3_readHead_63 (by decide) ?_
          exact tr_V.zret (by decide) dX3_readHead_64 rfl (fun h => h)
        · refine tr_V.iload_n (i := 1) dX3_readHead_57 rfl rfl ?_
          refine tr_V.bipush (v := (10 : Int32)) dX3_readHead_58 (by decide) ?_
          refine tr_V.icmp_le (tgt := 65) dX3_readHead_60 (by decide) ?_ ?_
          · refine tr_V.iconst (v := (0 : Int32)) dX3_readHead_63 (by decide) ?_
            exact tr_V.zret (by decide) dX3_readHead_64 rfl (fun h => h)
          · refine tr_V.aload_n (i := 0) dX3_readHead_65 rfl rfl ?_
            refine tr_V.getR (Nat.succ_pos _) fl_X3_12 shC_4 rfl dX3_readHead_66 ?_
            refine tr_V.iload_n (i := 1) dX3_readHead_69 rfl rfl ?_
            refine tr_V.bd (fun c14 h15 => ?_)
            refine tr_V.callV (C_X5_clear 5 isW_5 v11.1 v11.2 _ h15) yk_X5_clear iv_X5_clear ml_X3_26 shC_5 rfl ⟨rfl, Nat.le_of_ble_eq_true rfl⟩ rfl (Nat.le_of_ble_eq_true rfl) rfl dX3_readHead_70 ?_
            refine tr_V.iconst (v := (1 : Int32)) dX3_readHead_73 (by decide) ?_
            exact tr_V.zret (by decide) dX3_readHead_74 rfl (fun h => h)
  · refine tr_V.iconst (v := (0 : Int32)) dX3_readHead_9 (by decide) ?_
    exact tr_V.zret (by decide) dX3_readHead_10 rfl (fun h => h)
abbrev xX5_isThing : tr_X := (cX5_isThing, 2, RX5, (some .boolean), 1, shC, 81)
theorem cw_X5_isThing : Cond.code yX5_isThing cX5_isThing 2 (some .boolean) ∈ tr_tbl := tr_in 500 (by decide +kernel) rfl
theorem yk_X5_isThing : tr_yk yX5_isThing (xX5_isThing) 1 := ⟨cw_X5_isThing, in_X5, ⟨by decide +kernel, by decide +kernel, by decide +kernel⟩, Nat.le_of_ble_eq_true rfl⟩
theorem iv_X5_isThing : Cond.instanceMethod yX5_isThing ∈ tr_tbl ∧ Cond.selects (yX5_isThing).cls yX5_isThing yX5_isThing ∈ tr_tbl := ⟨tr_in 498 (by decide +kernel) rfl, tr_in 499 (by decide +kernel) rfl⟩
def mX5_isThing' (o : Nat) (p1 : Int32) (M : tr_M) : Option Int32 :=
  if p1 < 0 then (
    some (0 : Int32)
  ) else (
    if p1 < (M.1 o 0) then (
      some (1 : Int32)
    ) else (
      some (0 : Int32)
    )
  )
def mX5_isThing (o : Nat) (p1 : Int32) (M : tr_M) : Int32 :=
  if p1 < 0 then (
    (0 : Int32)
  ) else (
    if p1 < (M.1 o 0) then (
      (1 : Int32)
    ) else (
      (0 : Int32)
    )
  )
theorem mX5_isThing_eq (o : Nat) (p1 : Int32) (M : tr_M) : mX5_isThing' o p1 M = some (mX5_isThing o p1 M) := by
  unfold mX5_isThing' mX5_isThing
  repeat' split
  all_goals rfl
set_option maxRecDepth 100000 in
set_option maxHeartbeats 4000000 in
theorem C_X5_isThing (o : Nat) (ho : tr_isW o) (p1 : Int32) (M : tr_M) : tr_I yX5_isThing (xX5_isThing) [.ref o, .int p1] M (some (.int (mX5_isThing o p1 M))) M := by
  refine tr_I.of (Z := fun q : Int32 => (some (.int (mX5_isThing o p1 M)) : Option Value) = some (.int q) ∧ M = M) pn_X5 rfl gdC (Nat.le_of_ble_eq_true rfl) (fun Wt => ?_) (mX5_isThing_eq o p1 M) ⟨rfl, rfl⟩
  unfold mX5_isThing'
  refine tr_V.iload_n (i := 1) dX5_isThing_0 rfl rfl ?_
  refine tr_V.if_lt (tgt := 16) dX5_isThing_1 (by decide) ?_ ?_
  · refine tr_V.iconst (v := (0 : Int32)) dX5_isThing_16 (by decide) ?_
    exact tr_V.zret (by decide) dX5_isThing_17 rfl (fun h => h)
  · refine tr_V.iload_n (i := 1) dX5_isThing_4 rfl rfl ?_
    refine tr_V.aload_n (i := 0) dX5_isThing_5 rfl rfl ?_
    refine tr_V.getI fl_X5_9 (shW ho) rfl dX5_isThing_6 ?_
    refine tr_V.icmp_ge (tgt := 16) dX5_isThing_9 (by decide) ?_ ?_
    · refine tr_V.iconst (v := (1 : Int32)) dX5_isThing_12 (by decide) ?_
      refine tr_V.goto (tgt := 17) dX5_isThing_13 (by decide) ?_
      exact tr_V.zret (by decide) dX5_isThing_17 rfl (fun h => h)
    · refine tr_V.iconst (v := (0 : Int32)) dX5_isThing_16 (by decide) ?_
      exact tr_V.zret (by decide) dX5_isThing_17 rfl (fun h => h)
abbrev xX3_isThingBut : tr_X := (cX3_isThingBut, 4, RX3, (some .boolean), 2, shC, 81)
theorem cw_X3_isThingBut : Cond.code yX3_isThingBut cX3_isThingBut 4 (some .boolean) ∈ tr_tbl := tr_in 496 (by decide +kernel) rfl
theorem yk_X3_isThingBut : tr_yk yX3_isThingBut (xX3_isThingBut) 2 := ⟨cw_X3_isThingBut, in_X3, ⟨by decide +kernel, by decide +kernel, by decide +kernel⟩, Nat.le_of_ble_eq_true rfl⟩
theorem iv_X3_isThingBut : Cond.instanceMethod yX3_isThingBut ∈ tr_tbl ∧ Cond.selects (yX3_isThingBut).cls yX3_isThingBut yX3_isThingBut ∈ tr_tbl := ⟨tr_in 495 (by decide +kernel) rfl, tr_in 7 (by decide +kernel) rfl⟩
def mX3_isThingBut (p1 : Int32) (p2 : Int32) (M : tr_M) : Option (Int32) :=
  Option.bind (mX3_sign M) (fun c1 =>
  if (mX5_isThing 5 (c1 - (65 : Int32)) M) = 0 then (
    some (0 : Int32)
  ) else (
    if (c1 - (65 : Int32)) = p1 then (
      some (0 : Int32)
    ) else (
      if (c1 - (65 : Int32)) = p2 then (
        some (0 : Int32)
      ) else (
        some (1 : Int32)
      )
    )
  )
  )
set_option maxRecDepth 100000 in
set_option maxHeartbeats 4000000 in
theorem C_X3_isThingBut (p1 : Int32) (p2 : Int32) (M : tr_M) (r : Int32) (h : mX3_isThingBut p1 p2 M = some r) : tr_I yX3_isThingBut (xX3_isThingBut) [.ref 4, .int p1, .int p2] M (some (.int r)) M := by
  refine tr_I.of (Z := fun q : Int32 => (some (.int r) : Option Value) = some (.int q) ∧ M = M) pn_X3 rfl gdC (Nat.le_of_ble_eq_true rfl) (fun Wt => ?_) h ⟨rfl, rfl⟩
  unfold mX3_isThingBut
  refine tr_V.aload_n (i := 0) dX3_isThingBut_0 rfl rfl ?_
  refine tr_V.bd (fun c1 h2 => ?_)
  refine tr_V.callV (C_X3_sign M _ h2) yk_X3_sign iv_X3_sign ml_X3_49 shC_4 rfl ⟨rfl, Nat.le_of_ble_eq_true rfl⟩ rfl (Nat.le_of_ble_eq_true rfl) rfl dX3_isThingBut_1 ?_
  refine tr_V.bipush (v := (65 : Int32)) dX3_isThingBut_4 (by decide) ?_
  refine tr_V.isub dX3_isThingBut_6 ?_
  refine tr_V.istore_n (i := 3) dX3_isThingBut_7 rfl (Nat.le_of_ble_eq_true rfl) rfl ?_
  refine tr_V.aload_n (i := 0) dX3_isThingBut_8 rfl rfl ?_
  refine tr_V.getR (Nat.succ_pos _) fl_X3_12 shC_4 rfl dX3_isThingBut_9 ?_
  refine tr_V.iload_n (i := 3) dX3_isThingBut_12 rfl rfl ?_
  refine tr_V.callV (C_X5_isThing 5 isW_5 (c1 - (65 : Int32)) M) yk_X5_isThing iv_X5_isThing ml_X3_53 shC_5 rfl ⟨rfl, Nat.le_of_ble_eq_true rfl⟩ rfl (Nat.le_of_ble_eq_true rfl) rfl dX3_isThingBut_13 ?_
  refine tr_V.if_eq (tgt := 33) dX3_isThingBut_16 (by decide) ?_ ?_
  · refine tr_V.iconst (v := (0 : Int32)) dX3_isThingBut_33 (by decide) ?_
    exact tr_V.zret (by decide) dX3_isThingBut_34 rfl (fun h => h)
  · refine tr_V.iload_n (i := 3) dX3_isThingBut_19 rfl rfl ?_
    refine tr_V.iload_n (i := 1) dX3_isThingBut_20 rfl rfl ?_
    refine tr_V.icmp_eq (tgt := 33) dX3_isThingBut_21 (by decide) ?_ ?_
    · refine tr_V.iconst (v := (0 : Int32)) dX3_isThingBut_33 (by decide) ?_
      exact tr_V.zret (by decide) dX3_isThingBut_34 rfl (fun h => h)
    · refine tr_V.iload_n (i := 3) dX3_isThingBut_24 rfl rfl ?_
      refine tr_V.iload_n (i := 2) dX3_isThingBut_25 rfl rfl ?_
      refine tr_V.icmp_eq (tgt := 33) dX3_isThingBut_26 (by decide) ?_ ?_
      · refine tr_V.iconst (v := (0 : Int32)) dX3_isThingBut_33 (by decide) ?_
        exact tr_V.zret (by decide) dX3_isThingBut_34 rfl (fun h => h)
      · refine tr_V.iconst (v := (1 : Int32)) dX3_isThingBut_29 (by decide) ?_
        refine tr_V.goto (tgt := 34) dX3_isThingBut_30 (by decide) ?_
        exact tr_V.zret (by decide) dX3_isThingBut_34 rfl (fun h => h)
abbrev xX3_takeThing : tr_X := (cX3_takeThing, 2, RX3, (some .int), 2, shC, 81)
theorem cw_X3_takeThing : Cond.code yX3_takeThing cX3_takeThing 2 (some .int) ∈ tr_tbl := tr_in 504 (by decide +kernel) rfl
theorem yk_X3_takeThing : tr_yk yX3_takeThing (xX3_takeThing) 0 := ⟨cw_X3_takeThing, in_X3, ⟨by decide +kernel, by decide +kernel, by decide +kernel⟩, Nat.le_of_ble_eq_true rfl⟩
theorem iv_X3_takeThing : Cond.instanceMethod yX3_takeThing ∈ tr_tbl ∧ Cond.selects (yX3_takeThing).cls yX3_takeThing yX3_takeThing ∈ tr_tbl := ⟨tr_in 503 (by decide +kernel) rfl, tr_in 8 (by decide +kernel) rfl⟩
def mX3_takeThing  (M : tr_M) : Option (Int32 × tr_M) :=
  Option.bind (mX3_sign M) (fun c1 =>
  Option.bind (some (tr_st M 4 2 ((M.1 4 2) + (1 : Int32)))) (fun M3 =>
  some ((c1 - (65 : Int32)), M3)
  )
  )
set_option maxRecDepth 100000 in
set_option maxHeartbeats 4000000 in
theorem C_X3_takeThing  (M : tr_M) (r : Int32 × tr_M) (h : mX3_takeThing M = some r) : tr_I yX3_takeThing (xX3_takeThing) [.ref 4] M (some (.int r.1)) r.2 := by
  refine tr_I.of (Z := fun q : Int32 × tr_M => (some (.int r.1) : Option Value) = some (.int q.1) ∧ r.2 = q.2) pn_X3 rfl gdC (Nat.le_of_ble_eq_true rfl) (fun Wt => ?_) h ⟨rfl, rfl⟩
  unfold mX3_takeThing
  refine tr_V.aload_n (i := 0) dX3_takeThing_0 rfl rfl ?_
  refine tr_V.bd (fun c1 h2 => ?_)
  refine tr_V.callV (C_X3_sign M _ h2) yk_X3_sign iv_X3_sign ml_X3_49 shC_4 rfl ⟨rfl, Nat.le_of_ble_eq_true rfl⟩ rfl (Nat.le_of_ble_eq_true rfl) rfl dX3_takeThing_1 ?_
  refine tr_V.bipush (v := (65 : Int32)) dX3_takeThing_4 (by decide) ?_
  refine tr_V.isub dX3_takeThing_6 ?_
  refine tr_V.istore_n (i := 1) dX3_takeThing_7 rfl (Nat.le_of_ble_eq_true rfl) rfl ?_
  refine tr_V.aload_n (i := 0) dX3_takeThing_8 rfl rfl ?_
  refine tr_V.dup rfl dX3_takeThing_9 ?_
  refine tr_V.getI fl_X3_22 shC_4 rfl dX3_takeThing_10 ?_
  refine tr_V.iconst (v := (1 : Int32)) dX3_takeThing_13 (by decide) ?_
  refine tr_V.iadd dX3_takeThing_14 ?_
  refine tr_V.bd (fun M3 h4 => ?_)
  refine tr_V.putI fl_X3_22 shC_4 rfl dX3_takeThing_15 h4 ?_
  refine tr_V.iload_n (i := 1) dX3_takeThing_18 rfl rfl ?_
  exact tr_V.iret dX3_takeThing_19 rfl (fun h => h)
abbrev xX5_setSide : tr_X := (cX5_setSide, 4, RX5, (Option.none : Option Jvm.ClassFile.FieldType), 1, shC, 81)
theorem cw_X5_setSide : Cond.code yX5_setSide cX5_setSide 4 (Option.none : Option Jvm.ClassFile.FieldType) ∈ tr_tbl := tr_in 516 (by decide +kernel) rfl
theorem yk_X5_setSide : tr_yk yX5_setSide (xX5_setSide) 3 := ⟨cw_X5_setSide, in_X5, ⟨by decide +kernel, by decide +kernel, by decide +kernel⟩, Nat.le_of_ble_eq_true rfl⟩
theorem iv_X5_setSide : Cond.instanceMethod yX5_setSide ∈ tr_tbl ∧ Cond.selects (yX5_setSide).cls yX5_setSide yX5_setSide ∈ tr_tbl := ⟨tr_in 515 (by decide +kernel) rfl, tr_in 10 (by decide +kernel) rfl⟩
def mX5_setSide (o : Nat) (p1 : Int32) (p2 : Int32) (p3 : Int32) (M : tr_M) : Option (tr_M) :=
  Option.bind (tr_rd 10 M (o + 13) p1) (fun a1 =>
  Option.bind (tr_ra 10 (fun i => o + 2 + i) p1) (fun r3 =>
  Option.bind (tr_rd 10 M r3 p2) (fun a5 =>
  Option.bind (tr_wr 10 M (o + 13) p1 (a1 + (p3 - a5))) (fun M7 =>
  Option.bind (tr_ra 10 (fun i => o + 2 + i) p1) (fun r9 =>
  Option.bind (tr_wr 10 M7 r9 p2 p3) (fun M11 =>
  if 0 < p3 then (
    Option.bind (tr_rd 10 M11 (o + 12) p1) (fun a13 =>
    Option.bind (tr_wr 10 M11 (o + 12) p1 (a13 ||| ((1 : Int32) <<< (p2 &&& 31)))) (fun M15 =>
    some M15
    )
    )
  ) else (
    Option.bind (tr_rd 10 M11 (o + 12) p1) (fun a17 =>
    Option.bind (tr_wr 10 M11 (o + 12) p1 (a17 &&& (((1 : Int32) <<< (p2 &&& 31)) ^^^ (-1 : Int32)))) (fun M19 =>
    some M19
    )
    )
  )
  )
  )
  )
  )
  )
  )
set_option maxRecDepth 100000 in
set_option maxHeartbeats 4000000 in
theorem C_X5_setSide (o : Nat) (ho : tr_isW o) (p1 : Int32) (p2 : Int32) (p3 : Int32) (M M' : tr_M) (h : mX5_setSide o p1 p2 p3 M = some M') : tr_I yX5_setSide (xX5_setSide) [.ref o, .int p1, .int p2, .int p3] M none M' := by
  refine tr_I.of (Z := fun q : tr_M => (none : Option Value) = none ∧ M' = q) pn_X5 rfl gdC (Nat.le_of_ble_eq_true rfl) (fun Wt => ?_) h ⟨rfl, rfl⟩
  unfold mX5_setSide
  refine tr_V.aload_n (i := 0) dX5_setSide_0 rfl rfl ?_
  refine tr_V.getR (Nat.succ_pos _) fl_X5_30 (shW ho) rfl dX5_setSide_1 ?_
  refine tr_V.iload_n (i := 1) dX5_setSide_4 rfl rfl ?_
  refine tr_V.dup2 rfl rfl dX5_setSide_5 ?_
  refine tr_V.bd (fun a1 h2 => ?_)
  refine tr_V.iald h2 (shW_13 ho) dX5_setSide_6 ?_
  refine tr_V.iload_n (i := 3) dX5_setSide_7 rfl rfl ?_
  refine tr_V.aload_n (i := 0) dX5_setSide_8 rfl rfl ?_
  refine tr_V.getR (Nat.succ_pos _) fl_X5_23 (shW ho) rfl dX5_setSide_9 ?_
  refine tr_V.iload_n (i := 1) dX5_setSide_12 rfl rfl ?_
  refine tr_V.bd (fun r3 h4 => ?_)
  refine tr_V.aald (ty := .array .int) h4 (shW_1 ho) (tr_ra_pos h4 (by omega)) (fun _ => rfl) rfl dX5_setSide_13 ?_
  refine tr_V.iload_n (i := 2) dX5_setSide_14 rfl rfl ?_
  refine tr_V.bd (fun a5 h6 => ?_)
  refine tr_V.iald h6 (shW_in ho h4) dX5_setSide_15 ?_
  refine tr_V.isub dX5_setSide_16 ?_
  refine tr_V.iadd dX5_setSide_17 ?_
  refine tr_V.bd (fun M7 h8 => ?_)
  refine tr_V.iast h8 (shW_13 ho) dX5_setSide_18 ?_
  refine tr_V.aload_n (i := 0) dX5_setSide_19 rfl rfl ?_
  refine tr_V.getR (Nat.succ_pos _) fl_X5_23 (shW ho) rfl dX5_setSide_20 ?_
  refine tr_V.iload_n (i := 1) dX5_setSide_23 rfl rfl ?_
  refine tr_V.bd (fun r9 h10 => ?_)
  refine tr_V.aald (ty := .array .int) h10 (shW_1 ho) (tr_ra_pos h10 (by omega)) (fun _ => rfl) rfl dX5_setSide_24 ?_
  refine tr_V.iload_n (i := 2) dX5_setSide_25 rfl rfl ?_
  refine tr_V.iload_n (i := 3) dX5_setSide_26 rfl rfl ?_
  refine tr_V.bd (fun M11 h12 => ?_)
  refine tr_V.iast h12 (shW_in ho h10) dX5_setSide_27 ?_
  refine tr_V.aload_n (i := 0) dX5_setSide_28 rfl rfl ?_
  refine tr_V.getR (Nat.succ_pos _) fl_X5_26 (shW ho) rfl dX5_setSide_29 ?_
  refine tr_V.iload_n (i := 1) dX5_setSide_32 rfl rfl ?_
  refine tr_V.iload_n (i := 3) dX5_setSide_33 rfl rfl ?_
  refine tr_V.if_le (tgt := 50) dX5_setSide_34 (by decide) ?_ ?_
  · refine tr_V.aload_n (i := 0) dX5_setSide_37 rfl rfl ?_
    refine tr_V.getR (Nat.succ_pos _) fl_X5_26 (shW ho) rfl dX5_setSide_38 ?_
    refine tr_V.iload_n (i := 1) dX5_setSide_41 rfl rfl ?_
    refine tr_V.bd (fun a13 h14 => ?_)
    refine tr_V.iald h14 (shW_12 ho) dX5_setSide_42 ?_
    refine tr_V.iconst (v := (1 : Int32)) dX5_setSide_43 (by decide) ?_
    refine tr_V.iload_n (i := 2) dX5_setSide_44 rfl rfl ?_
    refine tr_V.ishl dX5_setSide_45 ?_
    refine tr_V.ior dX5_setSide_46 ?_
    refine tr_V.goto (tgt := 62) dX5_setSide_47 (by decide) ?_
    refine tr_V.bd (fun M15 h16 => ?_)
    refine tr_V.iast h16 (shW_12 ho) dX5_setSide_62 ?_
    exact tr_V.vret dX5_setSide_63 rfl (fun h => h)
  · refine tr_V.aload_n (i := 0) dX5_setSide_50 rfl rfl ?_
    refine tr_V.getR (Nat.succ_pos _) fl_X5_26 (shW ho) rfl dX5_setSide_51 ?_
    refine tr_V.iload_n (i := 1) dX5_setSide_54 rfl rfl ?_
    refine tr_V.bd (fun a17 h18 => ?_)
    refine tr_V.iald h18 (shW_12 ho) dX5_setSide_55 ?_
    refine tr_V.iconst (v := (1 : Int32)) dX5_setSide_56 (by decide) ?_
    refine tr_V.iload_n (i := 2) dX5_setSide_57 rfl rfl ?_
    refine tr_V.ishl dX5_setSide_58 ?_
    refine tr_V.iconst (v := (-1 : Int32)) dX5_setSide_59 (by decide) ?_
    refine tr_V.ixor dX5_setSide_60 ?_
    refine tr_V.iand dX5_setSide_61 ?_
    refine tr_V.bd (fun M19 h20 => ?_)
    refine tr_V.iast h20 (shW_12 ho) dX5_setSide_62 ?_
    exact tr_V.vret dX5_setSide_63 rfl (fun h => h)
abbrev xX5_setTie : tr_X := (cX5_setTie, 4, RX5, (Option.none : Option Jvm.ClassFile.FieldType), 2, shC, 81)
theorem cw_X5_setTie : Cond.code yX5_setTie cX5_setTie 4 (Option.none : Option Jvm.ClassFile.FieldType) ∈ tr_tbl := tr_in 512 (by decide +kernel) rfl
theorem yk_X5_setTie : tr_yk yX5_setTie (xX5_setTie) 3 := ⟨cw_X5_setTie, in_X5, ⟨by decide +kernel, by decide +kernel, by decide +kernel⟩, Nat.le_of_ble_eq_true rfl⟩
theorem iv_X5_setTie : Cond.instanceMethod yX5_setTie ∈ tr_tbl ∧ Cond.selects (yX5_setTie).cls yX5_setTie yX5_setTie ∈ tr_tbl := ⟨tr_in 510 (by decide +kernel) rfl, tr_in 511 (by decide +kernel) rfl⟩
def mX5_setTie (o : Nat) (p1 : Int32) (p2 : Int32) (p3 : Int32) (M : tr_M) : Option (tr_M) :=
  Option.bind (mX5_setSide o p1 p2 p3 M) (fun c1 =>
  Option.bind (mX5_setSide o p2 p1 p3 c1) (fun c3 =>
  some c3
  )
  )
set_option maxRecDepth 100000 in
set_option maxHeartbeats 4000000 in
theorem C_X5_setTie (o : Nat) (ho : tr_isW o) (p1 : Int32) (p2 : Int32) (p3 : Int32) (M M' : tr_M) (h : mX5_setTie o p1 p2 p3 M = some M') : tr_I yX5_setTie (xX5_setTie) [.ref o, .int p1, .int p2, .int p3] M none M' := by
  refine tr_I.of (Z := fun q : tr_M => (none : Option Value) = none ∧ M' = q) pn_X5 rfl gdC (Nat.le_of_ble_eq_true rfl) (fun Wt => ?_) h ⟨rfl, rfl⟩
  unfold mX5_setTie
  refine tr_V.aload_n (i := 0) dX5_setTie_0 rfl rfl ?_
  refine tr_V.iload_n (i := 1) dX5_setTie_1 rfl rfl ?_
  refine tr_V.iload_n (i := 2) dX5_setTie_2 rfl rfl ?_
  refine tr_V.iload_n (i := 3) dX5_setTie_3 rfl rfl ?_
  refine tr_V.bd (fun c1 h2 => ?_)
  refine tr_V.callV (C_X5_setSide o ho p1 p2 p3 M _ h2) yk_X5_setSide iv_X5_setSide ml_X5_70 (shW ho) rfl ⟨rfl, Nat.le_of_ble_eq_true rfl⟩ rfl (Nat.le_of_ble_eq_true rfl) rfl dX5_setTie_4 ?_
  refine tr_V.aload_n (i := 0) dX5_setTie_7 rfl rfl ?_
  refine tr_V.iload_n (i := 2) dX5_setTie_8 rfl rfl ?_
  refine tr_V.iload_n (i := 1) dX5_setTie_9 rfl rfl ?_
  refine tr_V.iload_n (i := 3) dX5_setTie_10 rfl rfl ?_
  refine tr_V.bd (fun c3 h4 => ?_)
  refine tr_V.callV (C_X5_setSide o ho p2 p1 p3 c1 _ h4) yk_X5_setSide iv_X5_setSide ml_X5_70 (shW ho) rfl ⟨rfl, Nat.le_of_ble_eq_true rfl⟩ rfl (Nat.le_of_ble_eq_true rfl) rfl dX5_setTie_11 ?_
  exact tr_V.vret dX5_setTie_14 rfl (fun h => h)
abbrev xX3_readTie : tr_X := (cX3_readTie, 3, RX3, (some .boolean), 3, shC, 81)
theorem cw_X3_readTie : Cond.code yX3_readTie cX3_readTie 3 (some .boolean) ∈ tr_tbl := tr_in 508 (by decide +kernel) rfl
theorem yk_X3_readTie : tr_yk yX3_readTie (xX3_readTie) 2 := ⟨cw_X3_readTie, in_X3, ⟨by decide +kernel, by decide +kernel, by decide +kernel⟩, Nat.le_of_ble_eq_true rfl⟩
theorem iv_X3_readTie : Cond.instanceMethod yX3_readTie ∈ tr_tbl ∧ Cond.selects (yX3_readTie).cls yX3_readTie yX3_readTie ∈ tr_tbl := ⟨tr_in 507 (by decide +kernel) rfl, tr_in 9 (by decide +kernel) rfl⟩
def mX3_readTie (p1 : Int32) (p2 : Int32) (M : tr_M) : Option (Int32 × tr_M) :=
  Option.bind (mX3_isFigure M) (fun c1 =>
  if c1 = 0 then (
    some ((0 : Int32), M)
  ) else (
    Option.bind (mX3_takeFigure M) (fun c3 =>
    Option.bind (mX5_setTie 5 p1 p2 c3.1 c3.2) (fun c5 =>
    some ((1 : Int32), c5)
    )
    )
  )
  )
set_option maxRecDepth 100000 in
set_option maxHeartbeats 4000000 in
theorem C_X3_readTie (p1 : Int32) (p2 : Int32) (M : tr_M) (r : Int32 × tr_M) (h : mX3_readTie p1 p2 M = some r) : tr_I yX3_readTie (xX3_readTie) [.ref 4, .int p1, .int p2] M (some (.int r.1)) r.2 := by
  refine tr_I.of (Z := fun q : Int32 × tr_M => (some (.int r.1) : Option Value) = some (.int q.1) ∧ r.2 = q.2) pn_X3 rfl gdC (Nat.le_of_ble_eq_true rfl) (fun Wt => ?_) h ⟨rfl, rfl⟩
  unfold mX3_readTie
  refine tr_V.aload_n (i := 0) dX3_readTie_0 rfl rfl ?_
  refine tr_V.bd (fun c1 h2 => ?_)
  refine tr_V.callV (C_X3_isFigure M _ h2) yk_X3_isFigure iv_X3_isFigure ml_X3_57 shC_4 rfl ⟨rfl, Nat.le_of_ble_eq_true rfl⟩ rfl (Nat.le_of_ble_eq_true rfl) rfl dX3_readTie_1 ?_
  refine tr_V.if_ne (tgt := 9) dX3_readTie_4 (by decide) ?_ ?_
  · refine tr_V.iconst (v := (0 : Int32)) dX3_readTie_7 (by decide) ?_
    exact tr_V.zret (by decide) dX3_readTie_8 rfl (fun h => h)
  · refine tr_V.aload_n (i := 0) dX3_readTie_9 rfl rfl ?_
    refine tr_V.getR (Nat.succ_pos _) fl_X3_12 shC_4 rfl dX3_readTie_10 ?_
    refine tr_V.iload_n (i := 1) dX3_readTie_13 rfl rfl ?_
    refine tr_V.iload_n (i := 2) dX3_readTie_14 rfl rfl ?_
    refine tr_V.aload_n (i := 0) dX3_readTie_15 rfl rfl ?_
    refine tr_V.bd (fun c3 h4 => ?_)
    refine tr_V.callV (C_X3_takeFigure M _ h4) yk_X3_takeFigure iv_X3_takeFigure ml_X3_60 shC_4 rfl ⟨rfl, Nat.le_of_ble_eq_true rfl⟩ rfl (Nat.le_of_ble_eq_true rfl) rfl dX3_readTie_16 ?_
    refine tr_V.bd (fun c5 h6 => ?_)
    refine tr_V.callV (C_X5_setTie 5 isW_5 p1 p2 c3.1 c3.2 _ h6) yk_X5_setTie iv_X5_setTie ml_X3_83 shC_5 rfl ⟨rfl, Nat.le_of_ble_eq_true rfl⟩ rfl (Nat.le_of_ble_eq_true rfl) rfl dX3_readTie_19 ?_
    refine tr_V.iconst (v := (1 : Int32)) dX3_readTie_22 (by decide) ?_
    exact tr_V.zret (by decide) dX3_readTie_23 rfl (fun h => h)
abbrev xX3_kindOf : tr_X := (cX3_kindOf, 1, RX3, (some .int), 1, shC, 81)
theorem cw_X3_kindOf : Cond.code yX3_kindOf cX3_kindOf 1 (some .int) ∈ tr_tbl := tr_in 519 (by decide +kernel) rfl
theorem yk_X3_kindOf : tr_yk yX3_kindOf (xX3_kindOf) 1 := ⟨cw_X3_kindOf, in_X3, ⟨by decide +kernel, by decide +kernel, by decide +kernel⟩, Nat.le_of_ble_eq_true rfl⟩
theorem sc_X3_kindOf : Cond.static yX3_kindOf ∈ tr_tbl := tr_in 518 (by decide +kernel) rfl
def mX3_kindOf' (p0 : Int32) : Option Int32 :=
  if p0 = (33 : Int32) then (
    some (5 : Int32)
  ) else (
  if p0 = (43 : Int32) then (
    some (2 : Int32)
  ) else (
  if p0 = (60 : Int32) then (
    some (1 : Int32)
  ) else (
  if p0 = (63 : Int32) then (
    some (6 : Int32)
  ) else (
  if p0 = (64 : Int32) then (
    some (3 : Int32)
  ) else (
  if p0 = (94 : Int32) then (
    some (4 : Int32)
  ) else (
    some (0 : Int32)
  ))))))
def mX3_kindOf (p0 : Int32) : Int32 :=
  if p0 = (33 : Int32) then (
    (5 : Int32)
  ) else (
  if p0 = (43 : Int32) then (
    (2 : Int32)
  ) else (
  if p0 = (60 : Int32) then (
    (1 : Int32)
  ) else (
  if p0 = (63 : Int32) then (
    (6 : Int32)
  ) else (
  if p0 = (64 : Int32) then (
    (3 : Int32)
  ) else (
  if p0 = (94 : Int32) then (
    (4 : Int32)
  ) else (
    (0 : Int32)
  ))))))
theorem mX3_kindOf_eq (p0 : Int32) : mX3_kindOf' p0 = some (mX3_kindOf p0) := by
  unfold mX3_kindOf' mX3_kindOf
  repeat' split
  all_goals rfl
set_option maxRecDepth 100000 in
set_option maxHeartbeats 4000000 in
theorem C_X3_kindOf (p0 : Int32) (M : tr_M) : tr_I yX3_kindOf (xX3_kindOf) [.int p0] M (some (.int (mX3_kindOf p0))) M := by
  refine tr_I.of (Z := fun q : Int32 => (some (.int (mX3_kindOf p0)) : Option Value) = some (.int q) ∧ M = M) pn_X3 rfl gdC (Nat.le_of_ble_eq_true rfl) (fun Wt => ?_) (mX3_kindOf_eq p0) ⟨rfl, rfl⟩
  unfold mX3_kindOf'
  refine tr_V.iload_n (i := 0) dX3_kindOf_0 rfl rfl ?_
  refine tr_V.case (k := (33 : Int32)) (fun c1 => ?_) (fun c1 => ?_)
  · refine tr_V.lookup (tgt := 68) (off := 67) dX3_kindOf_1 (by decide) (by rw [c1]; decide) (by decide) ?_
    refine tr_V.iconst (v := (5 : Int32)) dX3_kindOf_68 (by decide) ?_
    exact tr_V.iret dX3_kindOf_69 rfl (fun h => h)
  · refine tr_V.case (k := (43 : Int32)) (fun c2 => ?_) (fun c2 => ?_)
    · refine tr_V.lookup (tgt := 62) (off := 61) dX3_kindOf_1 (by decide) (by rw [c2]; decide) (by decide) ?_
      refine tr_V.iconst (v := (2 : Int32)) dX3_kindOf_62 (by decide) ?_
      exact tr_V.iret dX3_kindOf_63 rfl (fun h => h)
    · refine tr_V.case (k := (60 : Int32)) (fun c3 => ?_) (fun c3 => ?_)
      · refine tr_V.lookup (tgt := 60) (off := 59) dX3_kindOf_1 (by decide) (by rw [c3]; decide) (by decide) ?_
        refine tr_V.iconst (v := (1 : Int32)) dX3_kindOf_60 (by decide) ?_
        exact tr_V.iret dX3_kindOf_61 rfl (fun h => h)
      · refine tr_V.case (k := (63 : Int32)) (fun c4 => ?_) (fun c4 => ?_)
        · refine tr_V.lookup (tgt := 70) (off := 69) dX3_kindOf_1 (by decide) (by rw [c4]; decide) (by decide) ?_
          refine tr_V.bipush (v := (6 : Int32)) dX3_kindOf_70 (by decide) ?_
          exact tr_V.iret dX3_kindOf_72 rfl (fun h => h)
        · refine tr_V.case (k := (64 : Int32)) (fun c5 => ?_) (fun c5 => ?_)
          · refine tr_V.lookup (tgt := 64) (off := 63) dX3_kindOf_1 (by decide) (by rw [c5]; decide) (by decide) ?_
            refine tr_V.iconst (v := (3 : Int32)) dX3_kindOf_64 (by decide) ?_
            exact tr_V.iret dX3_kindOf_65 rfl (fun h => h)
          · refine tr_V.case (k := (94 : Int32)) (fun c6 => ?_) (fun c6 => ?_)
            · refine tr_V.lookup (tgt := 66) (off := 65) dX3_kindOf_1 (by decide) (by rw [c6]; decide) (by decide) ?_
              refine tr_V.iconst (v := (4 : Int32)) dX3_kindOf_66 (by decide) ?_
              exact tr_V.iret dX3_kindOf_67 rfl (fun h => h)
            · refine tr_V.lookup (tgt := 73) (off := 72) dX3_kindOf_1 (by decide) (by show Op.lookupswitch.offset [(33, 67), (43, 61), (60, 59), (63, 69), (64, 63), (94, 65)] 72 _ = _; rw [lv_osw c1 (by decide), lv_osw c2 (by decide), lv_osw c3 (by decide), lv_osw c4 (by decide), lv_osw c5 (by decide), lv_osw c6 (by decide)]; rfl) (by decide) ?_
              refine tr_V.iconst (v := (0 : Int32)) dX3_kindOf_73 (by decide) ?_
              exact tr_V.iret dX3_kindOf_74 rfl (fun h => h)
abbrev xX5_addRule : tr_X := (cX5_addRule, 6, RX5, (some .int), 1, shC, 81)
theorem cw_X5_addRule : Cond.code yX5_addRule cX5_addRule 6 (some .int) ∈ tr_tbl := tr_in 527 (by decide +kernel) rfl
theorem yk_X5_addRule : tr_yk yX5_addRule (xX5_addRule) 4 := ⟨cw_X5_addRule, in_X5, ⟨by decide +kernel, by decide +kernel, by decide +kernel⟩, Nat.le_of_ble_eq_true rfl⟩
theorem iv_X5_addRule : Cond.instanceMethod yX5_addRule ∈ tr_tbl ∧ Cond.selects (yX5_addRule).cls yX5_addRule yX5_addRule ∈ tr_tbl := ⟨tr_in 525 (by decide +kernel) rfl, tr_in 526 (by decide +kernel) rfl⟩
def mX5_addRule (o : Nat) (p1 : Int32) (p2 : Int32) (p3 : Int32) (p4 : Int32) (M : tr_M) : Option (Int32 × tr_M) :=
  Option.bind (tr_wr 8 M (o + 14) (M.1 o 1) p1) (fun M1 =>
  Option.bind (show Option (Int32) from
    if p1 = 0 then (
      some (0 : Int32)
    ) else (
      some p2
    )
  ) (fun (v3 : Int32) =>
    Option.bind (tr_wr 8 M1 (o + 15) (M.1 o 1) v3) (fun M4 =>
    Option.bind (show Option (Int32) from
      if p1 = 0 then (
        some (0 : Int32)
      ) else (
        some p3
      )
    ) (fun (v6 : Int32) =>
      Option.bind (tr_wr 8 M4 (o + 16) (M.1 o 1) v6) (fun M7 =>
      Option.bind (show Option (Int32) from
        if p1 = (6 : Int32) then (
          some p4
        ) else (
          some (0 : Int32)
        )
      ) (fun (v9 : Int32) =>
        Option.bind (tr_wr 8 M7 (o + 17) (M.1 o 1) v9) (fun M10 =>
        Option.bind (some (tr_st M10 o 1 ((M10.1 o 1) + (1 : Int32)))) (fun M12 =>
        some ((M.1 o 1), M12)
        )
        )
      )
      )
    )
    )
  )
  )
set_option maxRecDepth 100000 in
set_option maxHeartbeats 4000000 in
theorem C_X5_addRule (o : Nat) (ho : tr_isW o) (p1 : Int32) (p2 : Int32) (p3 : Int32) (p4 : Int32) (M : tr_M) (r : Int32 × tr_M) (h : mX5_addRule o p1 p2 p3 p4 M = some r) : tr_I yX5_addRule (xX5_addRule) [.ref o, .int p1, .int p2, .int p3, .int p4] M (some (.int r.1)) r.2 := by
  refine tr_I.of (Z := fun q : Int32 × tr_M => (some (.int r.1) : Option Value) = some (.int q.1) ∧ r.2 = q.2) pn_X5 rfl gdC (Nat.le_of_ble_eq_true rfl) (fun Wt => ?_) h ⟨rfl, rfl⟩
  unfold mX5_addRule
  refine tr_V.aload_n (i := 0) dX5_addRule_0 rfl rfl ?_
  refine tr_V.getI fl_X5_15 (shW ho) rfl dX5_addRule_1 ?_
  refine tr_V.istore (i := 5) dX5_addRule_4 (Nat.le_of_ble_eq_true rfl) rfl ?_
  refine tr_V.aload_n (i := 0) dX5_addRule_6 rfl rfl ?_
  refine tr_V.getR (Nat.succ_pos _) fl_X5_33 (shW ho) rfl dX5_addRule_7 ?_
  refine tr_V.iload dX5_addRule_10 rfl ?_
  refine tr_V.iload_n (i := 1) dX5_addRule_12 rfl rfl ?_
  refine tr_V.bd (fun M1 h2 => ?_)
  refine tr_V.iast h2 (shW_14 ho) dX5_addRule_13 ?_
  refine tr_V.aload_n (i := 0) dX5_addRule_14 rfl rfl ?_
  refine tr_V.getR (Nat.succ_pos _) fl_X5_36 (shW ho) rfl dX5_addRule_15 ?_
  refine tr_V.iload dX5_addRule_18 rfl ?_
  refine tr_V.iload_n (i := 1) dX5_addRule_20 rfl rfl ?_
  refine tr_V.seq (τ := Int32) (pc' := 29) (L := fun v3 => [(0, some (.ref o)), (1, some (.int p1)), (3, some (.int p3)), (4, some (.int p4)), (5, some (.int (M.1 o 1)))]) (S := fun v3 => [.int v3, .int (M.1 o 1), .ref (o + 15)]) (Mf := fun v3 => M1) ?_ ?_
  · refine tr_V.if_ne (tgt := 28) dX5_addRule_21 (by decide) ?_ ?_
    · refine tr_V.iconst (v := (0 : Int32)) dX5_addRule_24 (by decide) ?_
      refine tr_V.goto (tgt := 29) dX5_addRule_25 (by decide) ?_
      exact tr_V.to (fun h => h) ⟨rfl, rfl, rfl, rfl, rfl, trivial⟩
    · refine tr_V.iload_n (i := 2) dX5_addRule_28 rfl rfl ?_
      exact tr_V.to (fun h => h) ⟨rfl, rfl, rfl, rfl, rfl, trivial⟩
  · intro v3
    refine tr_V.bd (fun M4 h5 => ?_)
    refine tr_V.iast h5 (shW_15 ho) dX5_addRule_29 ?_
    refine tr_V.aload_n (i := 0) dX5_addRule_30 rfl rfl ?_
    refine tr_V.getR (Nat.succ_pos _) fl_X5_39 (shW ho) rfl dX5_addRule_31 ?_
    refine tr_V.iload dX5_addRule_34 rfl ?_
    refine tr_V.iload_n (i := 1) dX5_addRule_36 rfl rfl ?_
    refine tr_V.seq (τ := Int32) (pc' := 45) (L := fun v6 => [(0, some (.ref o)), (1, some (.int p1)), (4, some (.int p4)), (5, some (.int (M.1 o 1)))]) (S := fun v6 => [.int v6, .int (M.1 o 1), .ref (o + 16)]) (Mf := fun v6 => M4) ?_ ?_
    · refine tr_V.if_ne (tgt := 44) dX5_addRule_37 (by decide) ?_ ?_
      · refine tr_V.iconst (v := (0 : Int32)) dX5_addRule_40 (by decide) ?_
        refine tr_V.goto (tgt := 45) dX5_addRule_41 (by decide) ?_
        exact tr_V.to (fun h => h) ⟨rfl, rfl, rfl, rfl, trivial⟩
      · refine tr_V.iload_n (i := 3) dX5_addRule_44 rfl rfl ?_
        exact tr_V.to (fun h => h) ⟨rfl, rfl, rfl, rfl, trivial⟩
    · intro v6
      refine tr_V.bd (fun M7 h8 => ?_)
      refine tr_V.iast h8 (shW_16 ho) dX5_addRule_45 ?_
      refine tr_V.aload_n (i := 0) dX5_addRule_46 rfl rfl ?_
      refine tr_V.getR (Nat.succ_pos _) fl_X5_42 (shW ho) rfl dX5_addRule_47 ?_
      refine tr_V.iload dX5_addRule_50 rfl ?_
      refine tr_V.iload_n (i := 1) dX5_addRule_52 rfl rfl ?_
      refine tr_V.bipush (v := (6 : Int32)) dX5_addRule_53 (by decide) ?_
      refine tr_V.seq (τ := Int32) (pc' := 64) (L := fun v9 => [(0, some (.ref o)), (5, some (.int (M.1 o 1)))]) (S := fun v9 => [.int v9, .int (M.1 o 1), .ref (o + 17)]) (Mf := fun v9 => M7) ?_ ?_
      · refine tr_V.icmp_ne (tgt := 63) dX5_addRule_55 (by decide) ?_ ?_
        · refine tr_V.iload dX5_addRule_58 rfl ?_
          refine tr_V.goto (tgt := 64) dX5_addRule_60 (by decide) ?_
          exact tr_V.to (fun h => h) ⟨rfl, rfl, trivial⟩
        · refine tr_V.iconst (v := (0 : Int32)) dX5_addRule_63 (by decide) ?_
          exact tr_V.to (fun h => h) ⟨rfl, rfl, trivial⟩
      · intro v9
        refine tr_V.bd (fun M10 h11 => ?_)
        refine tr_V.iast h11 (shW_17 ho) dX5_addRule_64 ?_
        refine tr_V.aload_n (i := 0) dX5_addRule_65 rfl rfl ?_
        refine tr_V.dup rfl dX5_addRule_66 ?_
        refine tr_V.getI fl_X5_15 (shW ho) rfl dX5_addRule_67 ?_
        refine tr_V.iconst (v := (1 : Int32)) dX5_addRule_70 (by decide) ?_
        refine tr_V.iadd dX5_addRule_71 ?_
        refine tr_V.bd (fun M12 h13 => ?_)
        refine tr_V.putI fl_X5_15 (shW ho) rfl dX5_addRule_72 h13 ?_
        refine tr_V.iload dX5_addRule_75 rfl ?_
        exact tr_V.iret dX5_addRule_77 rfl (fun h => h)
abbrev xX3_readRule : tr_X := (cX3_readRule, 6, RX3, (some .boolean), 3, shC, 81)
theorem cw_X3_readRule : Cond.code yX3_readRule cX3_readRule 6 (some .boolean) ∈ tr_tbl := tr_in 523 (by decide +kernel) rfl
theorem yk_X3_readRule : tr_yk yX3_readRule (xX3_readRule) 2 := ⟨cw_X3_readRule, in_X3, ⟨by decide +kernel, by decide +kernel, by decide +kernel⟩, Nat.le_of_ble_eq_true rfl⟩
theorem iv_X3_readRule : Cond.instanceMethod yX3_readRule ∈ tr_tbl ∧ Cond.selects (yX3_readRule).cls yX3_readRule yX3_readRule ∈ tr_tbl := ⟨tr_in 522 (by decide +kernel) rfl, tr_in 11 (by decide +kernel) rfl⟩
def mX3_readRule (p1 : Int32) (p2 : Int32) (M : tr_M) : Option (Int32 × tr_M) :=
  Option.bind (show Option (Int32) from
    if p1 = (3 : Int32) then (
      some (1 : Int32)
    ) else (
      if p1 = (4 : Int32) then (
        some (1 : Int32)
      ) else (
        some (0 : Int32)
      )
    )
  ) (fun (v1 : Int32) =>
    Option.bind (show Option ((Unit) ⊕ (Int32 × tr_M)) from
      if v1 = 0 then (
        Option.bind (mX3_isThingBut p2 (-9 : Int32) M) (fun c3 =>
        if c3 = 0 then (
          some (.inr ((0 : Int32), M))
        ) else (
          some (.inl ())
        )
        )
      ) else (
        Option.bind (mX3_isFigure M) (fun c5 =>
        if c5 = 0 then (
          some (.inr ((0 : Int32), M))
        ) else (
          some (.inl ())
        )
        )
      )
    ) (tr_el (fun (v2 : Unit) =>
      Option.bind (show Option (Int32 × tr_M) from
        if v1 = 0 then (
          Option.bind (mX3_takeThing M) (fun c8 =>
          some (c8.1, c8.2)
          )
        ) else (
          Option.bind (mX3_takeFigure M) (fun c10 =>
          some (c10.1, c10.2)
          )
        )
      ) (fun (v7 : Int32 × tr_M) =>
        Option.bind (show Option ((Int32 × tr_M) ⊕ (Int32 × tr_M)) from
          if p1 = (6 : Int32) then (
            Option.bind (mX3_isThingBut p2 v7.1 v7.2) (fun c13 =>
            if c13 = 0 then (
              some (.inr ((0 : Int32), v7.2))
            ) else (
              Option.bind (mX3_takeThing v7.2) (fun c15 =>
              some (.inl (c15.1, c15.2))
              )
            )
            )
          ) else (
            some (.inl ((0 : Int32), v7.2))
          )
        ) (tr_el (fun (v12 : Int32 × tr_M) =>
          Option.bind (mX5_addRule 5 p1 p2 v7.1 v12.1 v12.2) (fun c17 =>
          some ((1 : Int32), c17.2)
          )
        ))
      )
    ))
  )
set_option maxRecDepth 100000 in
set_option maxHeartbeats 4000000 in
theorem C_X3_readRule (p1 : Int32) (p2 : Int32) (M : tr_M) (r : Int32 × tr_M) (h : mX3_readRule p1 p2 M = some r) : tr_I yX3_readRule (xX3_readRule) [.ref 4, .int p1, .int p2] M (some (.int r.1)) r.2 := by
  refine tr_I.of (Z := fun q : Int32 × tr_M => (some (.int r.1) : Option Value) = some (.int q.1) ∧ r.2 = q.2) pn_X3 rfl gdC (Nat.le_of_ble_eq_true rfl) (fun Wt => ?_) h ⟨rfl, rfl⟩
  unfold mX3_readRule
  refine tr_V.iload_n (i := 1) dX3_readRule_0 rfl rfl ?_
  refine tr_V.iconst (v := (3 : Int32)) dX3_readRule_1 (by decide) ?_
  refine tr_V.seq (τ := Int32) (pc' := 15) (L := fun v1 => [(0, some (.ref 4)), (1, some (.int p1)), (2, some (.int p2))]) (S := fun v1 => [.int v1]) (Mf := fun v1 => M) ?_ ?_
  · refine tr_V.icmp_eq (tgt := 10) dX3_readRule_2 (by decide) ?_ ?_
    · refine tr_V.iconst (v := (1 : Int32)) dX3_readRule_10 (by decide) ?_
      refine tr_V.goto (tgt := 15) dX3_readRule_11 (by decide) ?_
      exact tr_V.to (fun h => h) ⟨rfl, rfl, rfl, trivial⟩
    · refine tr_V.iload_n (i := 1) dX3_readRule_5 rfl rfl ?_
      refine tr_V.iconst (v := (4 : Int32)) dX3_readRule_6 (by decide) ?_
      refine tr_V.icmp_ne (tgt := 14) dX3_readRule_7 (by decide) ?_ ?_
      · refine tr_V.iconst (v := (1 : Int32)) dX3_readRule_10 (by decide) ?_
        refine tr_V.goto (tgt := 15) dX3_readRule_11 (by decide) ?_
        exact tr_V.to (fun h => h) ⟨rfl, rfl, rfl, trivial⟩
      · refine tr_V.iconst (v := (0 : Int32)) dX3_readRule_14 (by decide) ?_
        exact tr_V.to (fun h => h) ⟨rfl, rfl, rfl, trivial⟩
  · intro v1
    refine tr_V.istore_n (i := 3) dX3_readRule_15 rfl (Nat.le_of_ble_eq_true rfl) rfl ?_
    refine tr_V.iload_n (i := 3) dX3_readRule_16 rfl rfl ?_
    refine tr_V.seqE (τ := Unit) (pc' := 42) (L := fun v2 => [(0, some (.ref 4)), (1, some (.int p1)), (2, some (.int p2)), (3, some (.int v1))]) (S := fun v2 => []) (Mf := fun v2 => M) ?_ ?_
    · refine tr_V.if_eq (tgt := 30) dX3_readRule_17 (by decide) ?_ ?_
      · refine tr_V.aload_n (i := 0) dX3_readRule_30 rfl rfl ?_
        refine tr_V.iload_n (i := 2) dX3_readRule_31 rfl rfl ?_
        refine tr_V.bipush (v := (-9 : Int32)) dX3_readRule_32 (by decide) ?_
        refine tr_V.bd (fun c3 h4 => ?_)
        refine tr_V.callV (C_X3_isThingBut p2 (-9 : Int32) M _ h4) yk_X3_isThingBut iv_X3_isThingBut ml_X3_63 shC_4 rfl ⟨rfl, Nat.le_of_ble_eq_true rfl⟩ rfl (Nat.le_of_ble_eq_true rfl) rfl dX3_readRule_34 ?_
        refine tr_V.if_ne (tgt := 42) dX3_readRule_37 (by decide) ?_ ?_
        · refine tr_V.iconst (v := (0 : Int32)) dX3_readRule_40 (by decide) ?_
          exact tr_V.zret (by decide) dX3_readRule_41 rfl (fun h => h)
        · exact tr_V.to (fun h => h) ⟨rfl, rfl, rfl, rfl, trivial⟩
      · refine tr_V.aload_n (i := 0) dX3_readRule_20 rfl rfl ?_
        refine tr_V.bd (fun c5 h6 => ?_)
        refine tr_V.callV (C_X3_isFigure M _ h6) yk_X3_isFigure iv_X3_isFigure ml_X3_57 shC_4 rfl ⟨rfl, Nat.le_of_ble_eq_true rfl⟩ rfl (Nat.le_of_ble_eq_true rfl) rfl dX3_readRule_21 ?_
        refine tr_V.if_ne (tgt := 42) dX3_readRule_24 (by decide) ?_ ?_
        · refine tr_V.goto (tgt := 40) dX3_readRule_27 (by decide) ?_
          refine tr_V.iconst (v := (0 : Int32)) dX3_readRule_40 (by decide) ?_
          exact tr_V.zret (by decide) dX3_readRule_41 rfl (fun h => h)
        · exact tr_V.to (fun h => h) ⟨rfl, rfl, rfl, rfl, trivial⟩
    · intro v2
      refine tr_V.iload_n (i := 3) dX3_readRule_42 rfl rfl ?_
      refine tr_V.seq (τ := Int32 × tr_M) (pc' := 57) (L := fun v7 => [(0, some (.ref 4)), (1, some (.int p1)), (2, some (.int p2))]) (S := fun v7 => [.int v7.1]) (Mf := fun v7 => v7.2) ?_ ?_
      · refine tr_V.if_eq (tgt := 53) dX3_readRule_43 (by decide) ?_ ?_
        · refine tr_V.aload_n (i := 0) dX3_readRule_53 rfl rfl ?_
          refine tr_V.bd (fun c8 h9 => ?_)
          refine tr_V.callV (C_X3_takeThing M _ h9) yk_X3_takeThing iv_X3_takeThing ml_X3_67 shC_4 rfl ⟨rfl, Nat.le_of_ble_eq_true rfl⟩ rfl (Nat.le_of_ble_eq_true rfl) rfl dX3_readRule_54 ?_
          exact tr_V.to (fun h => h) ⟨rfl, rfl, rfl, trivial⟩
        · refine tr_V.aload_n (i := 0) dX3_readRule_46 rfl rfl ?_
          refine tr_V.bd (fun c10 h11 => ?_)
          refine tr_V.callV (C_X3_takeFigure M _ h11) yk_X3_takeFigure iv_X3_takeFigure ml_X3_60 shC_4 rfl ⟨rfl, Nat.le_of_ble_eq_true rfl⟩ rfl (Nat.le_of_ble_eq_true rfl) rfl dX3_readRule_47 ?_
          refine tr_V.goto (tgt := 57) dX3_readRule_50 (by decide) ?_
          exact tr_V.to (fun h => h) ⟨rfl, rfl, rfl, trivial⟩
      · intro v7
        refine tr_V.istore (i := 4) dX3_readRule_57 (Nat.le_of_ble_eq_true rfl) rfl ?_
        refine tr_V.iconst (v := (0 : Int32)) dX3_readRule_59 (by decide) ?_
        refine tr_V.istore (i := 5) dX3_readRule_60 (Nat.le_of_ble_eq_true rfl) rfl ?_
        refine tr_V.iload_n (i := 1) dX3_readRule_62 rfl rfl ?_
        refine tr_V.bipush (v := (6 : Int32)) dX3_readRule_63 (by decide) ?_
        refine tr_V.seqE (τ := Int32 × tr_M) (pc' := 86) (L := fun v12 => [(0, some (.ref 4)), (1, some (.int p1)), (2, some (.int p2)), (4, some (.int v7.1)), (5, some (.int v12.1))]) (S := fun v12 => []) (Mf := fun v12 => v12.2) ?_ ?_
        · refine tr_V.icmp_ne (tgt := 86) dX3_readRule_65 (by decide) ?_ ?_
          · refine tr_V.aload_n (i := 0) dX3_readRule_68 rfl rfl ?_
            refine tr_V.iload_n (i := 2) dX3_readRule_69 rfl rfl ?_
            refine tr_V.iload dX3_readRule_70 rfl ?_
            refine tr_V.bd (fun c13 h14 => ?_)
            refine tr_V.callV (C_X3_isThingBut p2 v7.1 v7.2 _ h14) yk_X3_isThingBut iv_X3_isThingBut ml_X3_63 shC_4 rfl ⟨rfl, Nat.le_of_ble_eq_true rfl⟩ rfl (Nat.le_of_ble_eq_true rfl) rfl dX3_readRule_72 ?_
            refine tr_V.if_ne (tgt := 80) dX3_readRule_75 (by decide) ?_ ?_
            · refine tr_V.iconst (v := (0 : Int32)) dX3_readRule_78 (by decide) ?_
              exact tr_V.zret (by decide) dX3_readRule_79 rfl (fun h => h)
            · refine tr_V.aload_n (i := 0) dX3_readRule_80 rfl rfl ?_
              refine tr_V.bd (fun c15 h16 => ?_)
              refine tr_V.callV (C_X3_takeThing v7.2 _ h16) yk_X3_takeThing iv_X3_takeThing ml_X3_67 shC_4 rfl ⟨rfl, Nat.le_of_ble_eq_true rfl⟩ rfl (Nat.le_of_ble_eq_true rfl) rfl dX3_readRule_81 ?_
              refine tr_V.istore (i := 5) dX3_readRule_84 (Nat.le_of_ble_eq_true rfl) rfl ?_
              exact tr_V.to (fun h => h) ⟨rfl, rfl, rfl, rfl, rfl, trivial⟩
          · exact tr_V.to (fun h => h) ⟨rfl, rfl, rfl, rfl, rfl, trivial⟩
        · intro v12
          refine tr_V.aload_n (i := 0) dX3_readRule_86 rfl rfl ?_
          refine tr_V.getR (Nat.succ_pos _) fl_X3_12 shC_4 rfl dX3_readRule_87 ?_
          refine tr_V.iload_n (i := 1) dX3_readRule_90 rfl rfl ?_
          refine tr_V.iload_n (i := 2) dX3_readRule_91 rfl rfl ?_
          refine tr_V.iload dX3_readRule_92 rfl ?_
          refine tr_V.iload dX3_readRule_94 rfl ?_
          refine tr_V.bd (fun c17 h18 => ?_)
          refine tr_V.callV (C_X5_addRule 5 isW_5 p1 p2 v7.1 v12.1 v12.2 _ h18) yk_X5_addRule iv_X5_addRule ml_X3_87 shC_5 rfl ⟨rfl, Nat.le_of_ble_eq_true rfl⟩ rfl (Nat.le_of_ble_eq_true rfl) rfl dX3_readRule_96 ?_
          refine tr_V.pop rfl dX3_readRule_99 ?_
          refine tr_V.iconst (v := (1 : Int32)) dX3_readRule_100 (by decide) ?_
          exact tr_V.zret (by decide) dX3_readRule_101 rfl (fun h => h)
abbrev xX3_readItem : tr_X := (cX3_readItem, 4, RX3, (some .boolean), 4, shC, 81)
theorem cw_X3_readItem : Cond.code yX3_readItem cX3_readItem 4 (some .boolean) ∈ tr_tbl := tr_in 492 (by decide +kernel) rfl
theorem yk_X3_readItem : tr_yk yX3_readItem (xX3_readItem) 0 := ⟨cw_X3_readItem, in_X3, ⟨by decide +kernel, by decide +kernel, by decide +kernel⟩, Nat.le_of_ble_eq_true rfl⟩
theorem iv_X3_readItem : Cond.instanceMethod yX3_readItem ∈ tr_tbl ∧ Cond.selects (yX3_readItem).cls yX3_readItem yX3_readItem ∈ tr_tbl := ⟨tr_in 491 (by decide +kernel) rfl, tr_in 6 (by decide +kernel) rfl⟩
def mX3_readItem  (M : tr_M) : Option (Int32 × tr_M) :=
  Option.bind (mX3_isThingBut (-9 : Int32) (-9 : Int32) M) (fun c1 =>
  if c1 = 0 then (
    some ((0 : Int32), M)
  ) else (
    Option.bind (mX3_takeThing M) (fun c3 =>
    Option.bind (mX3_isThingBut c3.1 (-9 : Int32) c3.2) (fun c5 =>
    if c5 = 0 then (
      Option.bind (mX3_sign c3.2) (fun c7 =>
      if (mX3_kindOf c7) = 0 then (
        some ((0 : Int32), c3.2)
      ) else (
        if (c3.2.1 5 1) = (8 : Int32) then (
          Option.bind (some (tr_st c3.2 4 2 (M.1 4 2))) (fun M11 =>
          some ((0 : Int32), M11)
          )
        ) else (
          Option.bind (some (tr_st c3.2 4 2 ((c3.2.1 4 2) + (1 : Int32)))) (fun M13 =>
          Option.bind (mX3_readRule (mX3_kindOf c7) c3.1 M13) (fun c15 =>
          Option.bind (tr_gd (c15.1 &&& 1 == c15.1)) (fun _ => some (c15.1, c15.2))
          )
          )
        )
      )
      )
    ) else (
      Option.bind (mX3_takeThing c3.2) (fun c19 =>
      Option.bind (mX3_readTie c3.1 c19.1 c19.2) (fun c21 =>
      Option.bind (tr_gd (c21.1 &&& 1 == c21.1)) (fun _ => some (c21.1, c21.2))
      )
      )
    )
    )
    )
  )
  )
set_option maxRecDepth 100000 in
set_option maxHeartbeats 4000000 in
theorem C_X3_readItem  (M : tr_M) (r : Int32 × tr_M) (h : mX3_readItem M = some r) : tr_I yX3_readItem (xX3_readItem) [.ref 4] M (some (.int r.1)) r.2 := by
  refine tr_I.of (Z := fun q : Int32 × tr_M => (some (.int r.1) : Option Value) = some (.int q.1) ∧ r.2 = q.2) pn_X3 rfl gdC (Nat.le_of_ble_eq_true rfl) (fun Wt => ?_) h ⟨rfl, rfl⟩
  unfold mX3_readItem
  refine tr_V.aload_n (i := 0) dX3_readItem_0 rfl rfl ?_
  refine tr_V.getI fl_X3_22 shC_4 rfl dX3_readItem_1 ?_
  refine tr_V.istore_n (i := 1) dX3_readItem_4 rfl (Nat.le_of_ble_eq_true rfl) rfl ?_
  refine tr_V.aload_n (i := 0) dX3_readItem_5 rfl rfl ?_
  refine tr_V.bipush (v := (-9 : Int32)) dX3_readItem_6 (by decide) ?_
  refine tr_V.bipush (v := (-9 : Int32)) dX3_readItem_8 (by decide) ?_
  refine tr_V.bd (fun c1 h2 => ?_)
  refine tr_V.callV (C_X3_isThingBut (-9 : Int32) (-9 : Int32) M _ h2) yk_X3_isThingBut iv_X3_isThingBut ml_X3_63 shC_4 rfl ⟨rfl, Nat.le_of_ble_eq_true rfl⟩ rfl (Nat.le_of_ble_eq_true rfl) rfl dX3_readItem_10 ?_
  refine tr_V.if_ne (tgt := 18) dX3_readItem_13 (by decide) ?_ ?_
  · refine tr_V.iconst (v := (0 : Int32)) dX3_readItem_16 (by decide) ?_
    exact tr_V.zret (by decide) dX3_readItem_17 rfl (fun h => h)
  · refine tr_V.aload_n (i := 0) dX3_readItem_18 rfl rfl ?_
    refine tr_V.bd (fun c3 h4 => ?_)
    refine tr_V.callV (C_X3_takeThing M _ h4) yk_X3_takeThing iv_X3_takeThing ml_X3_67 shC_4 rfl ⟨rfl, Nat.le_of_ble_eq_true rfl⟩ rfl (Nat.le_of_ble_eq_true rfl) rfl dX3_readItem_19 ?_
    refine tr_V.istore_n (i := 2) dX3_readItem_22 rfl (Nat.le_of_ble_eq_true rfl) rfl ?_
    refine tr_V.aload_n (i := 0) dX3_readItem_23 rfl rfl ?_
    refine tr_V.iload_n (i := 2) dX3_readItem_24 rfl rfl ?_
    refine tr_V.bipush (v := (-9 : Int32)) dX3_readItem_25 (by decide) ?_
    refine tr_V.bd (fun c5 h6 => ?_)
    refine tr_V.callV (C_X3_isThingBut c3.1 (-9 : Int32) c3.2 _ h6) yk_X3_isThingBut iv_X3_isThingBut ml_X3_63 shC_4 rfl ⟨rfl, Nat.le_of_ble_eq_true rfl⟩ rfl (Nat.le_of_ble_eq_true rfl) rfl dX3_readItem_27 ?_
    refine tr_V.if_eq (tgt := 43) dX3_readItem_30 (by decide) ?_ ?_
    · refine tr_V.aload_n (i := 0) dX3_readItem_43 rfl rfl ?_
      refine tr_V.bd (fun c7 h8 => ?_)
      refine tr_V.callV (C_X3_sign c3.2 _ h8) yk_X3_sign iv_X3_sign ml_X3_49 shC_4 rfl ⟨rfl, Nat.le_of_ble_eq_true rfl⟩ rfl (Nat.le_of_ble_eq_true rfl) rfl dX3_readItem_44 ?_
      refine tr_V.callS (C_X3_kindOf c7 c3.2) yk_X3_kindOf sc_X3_kindOf ml_X3_73 ⟨rfl, Nat.le_of_ble_eq_true rfl⟩ rfl (Nat.le_of_ble_eq_true rfl) rfl dX3_readItem_47 ?_
      refine tr_V.istore_n (i := 3) dX3_readItem_50 rfl (Nat.le_of_ble_eq_true rfl) rfl ?_
      refine tr_V.iload_n (i := 3) dX3_readItem_51 rfl rfl ?_
      refine tr_V.if_ne (tgt := 57) dX3_readItem_52 (by decide) ?_ ?_
      · refine tr_V.iconst (v := (0 : Int32)) dX3_readItem_55 (by decide) ?_
        exact tr_V.zret (by decide) dX3_readItem_56 rfl (fun h => h)
      · refine tr_V.aload_n (i := 0) dX3_readItem_57 rfl rfl ?_
        refine tr_V.getR (Nat.succ_pos _) fl_X3_12 shC_4 rfl dX3_readItem_58 ?_
        refine tr_V.getI fl_X3_77 shC_5 rfl dX3_readItem_61 ?_
        refine tr_V.bipush (v := (8 : Int32)) dX3_readItem_64 (by decide) ?_
        refine tr_V.icmp_ne (tgt := 76) dX3_readItem_66 (by decide) ?_ ?_
        · refine tr_V.aload_n (i := 0) dX3_readItem_69 rfl rfl ?_
          refine tr_V.iload_n (i := 1) dX3_readItem_70 rfl rfl ?_
          refine tr_V.bd (fun M11 h12 => ?_)
          refine tr_V.putI fl_X3_22 shC_4 rfl dX3_readItem_71 h12 ?_
          refine tr_V.iconst (v := (0 : Int32)) dX3_readItem_74 (by decide) ?_
          exact tr_V.zret (by decide) dX3_readItem_75 rfl (fun h => h)
        · refine tr_V.aload_n (i := 0) dX3_readItem_76 rfl rfl ?_
          refine tr_V.dup rfl dX3_readItem_77 ?_
          refine tr_V.getI fl_X3_22 shC_4 rfl dX3_readItem_78 ?_
          refine tr_V.iconst (v := (1 : Int32)) dX3_readItem_81 (by decide) ?_
          refine tr_V.iadd dX3_readItem_82 ?_
          refine tr_V.bd (fun M13 h14 => ?_)
          refine tr_V.putI fl_X3_22 shC_4 rfl dX3_readItem_83 h14 ?_
          refine tr_V.aload_n (i := 0) dX3_readItem_86 rfl rfl ?_
          refine tr_V.iload_n (i := 3) dX3_readItem_87 rfl rfl ?_
          refine tr_V.iload_n (i := 2) dX3_readItem_88 rfl rfl ?_
          refine tr_V.bd (fun c15 h16 => ?_)
          refine tr_V.callV (C_X3_readRule (mX3_kindOf c7) c3.1 M13 _ h16) yk_X3_readRule iv_X3_readRule ml_X3_80 shC_4 rfl ⟨rfl, Nat.le_of_ble_eq_true rfl⟩ rfl (Nat.le_of_ble_eq_true rfl) rfl dX3_readItem_89 ?_
          refine tr_V.gd (fun h17 => ?_)
          exact tr_V.zret h17 dX3_readItem_92 rfl (fun h => h)
    · refine tr_V.aload_n (i := 0) dX3_readItem_33 rfl rfl ?_
      refine tr_V.iload_n (i := 2) dX3_readItem_34 rfl rfl ?_
      refine tr_V.aload_n (i := 0) dX3_readItem_35 rfl rfl ?_
      refine tr_V.bd (fun c19 h20 => ?_)
      refine tr_V.callV (C_X3_takeThing c3.2 _ h20) yk_X3_takeThing iv_X3_takeThing ml_X3_67 shC_4 rfl ⟨rfl, Nat.le_of_ble_eq_true rfl⟩ rfl (Nat.le_of_ble_eq_true rfl) rfl dX3_readItem_36 ?_
      refine tr_V.bd (fun c21 h22 => ?_)
      refine tr_V.callV (C_X3_readTie c3.1 c19.1 c19.2 _ h22) yk_X3_readTie iv_X3_readTie ml_X3_70 shC_4 rfl ⟨rfl, Nat.le_of_ble_eq_true rfl⟩ rfl (Nat.le_of_ble_eq_true rfl) rfl dX3_readItem_39 ?_
      refine tr_V.gd (fun h23 => ?_)
      exact tr_V.zret h23 dX3_readItem_42 rfl (fun h => h)
abbrev xX3_read : tr_X := (cX3_read, 3, RX3, (some .int), 5, shC, 81)
theorem cw_X3_read : Cond.code yX3_read cX3_read 3 (some .int) ∈ tr_tbl := tr_in 461 (by decide +kernel) rfl
theorem yk_X3_read : tr_yk yX3_read (xX3_read) 1 := ⟨cw_X3_read, in_X3, ⟨by decide +kernel, by decide +kernel, by decide +kernel⟩, Nat.le_of_ble_eq_true rfl⟩
theorem iv_X3_read : Cond.instanceMethod yX3_read ∈ tr_tbl ∧ Cond.selects (yX3_read).cls yX3_read yX3_read ∈ tr_tbl := ⟨tr_in 459 (by decide +kernel) rfl, tr_in 460 (by decide +kernel) rfl⟩
def mX3_read_l36  (s11 : Int32 × tr_M) : Option ((Int32 × tr_M) ⊕ (Int32 × tr_M)) :=
  if (120 : Int32) < s11.1 then (
    some (.inr ((-9 : Int32), s11.2))
  ) else (
    Option.bind (mX3_skipBlanks s11.2) (fun c12 =>
    Option.bind (tr_gd (tr_isL (c12.1 4 1).toNatClampNeg)) (fun _ =>
    if (c12.1 4 2) < (c12.1 ((c12.1 4 1).toNatClampNeg) 1) then (
      Option.bind (mX3_readItem c12) (fun c15 =>
      if c15.1 = 0 then (
        some (.inr ((c15.2.1 4 2), c15.2))
      ) else (
        some (.inl ((s11.1 + (1 : Int32)), c15.2))
      )
      )
    ) else (
      some (.inr ((-9 : Int32), c12))
    )
    )
    )
  )
def mX3_read (p1 : Nat) (M : tr_M) : Option (Int32 × tr_M) :=
  Option.bind (some (tr_st M 4 1 (nI p1))) (fun M1 =>
  Option.bind (some (tr_st M1 4 2 (0 : Int32))) (fun M3 =>
  Option.bind (mX5_clear 5 (0 : Int32) M3) (fun c5 =>
  Option.bind (mX3_skipBlanks c5) (fun c7 =>
  Option.bind (mX3_readHead c7) (fun c9 =>
  if c9.1 = 0 then (
    some ((c9.2.1 4 2), c9.2)
  ) else (
    tr_loop (mX3_read_l36) ((0 : Int32), c9.2)
  )
  )
  )
  )
  )
  )
set_option maxRecDepth 100000 in
set_option maxHeartbeats 4000000 in
theorem C_X3_read (p1 : Nat) (hp1 : tr_isLp p1) (M : tr_M) (r : Int32 × tr_M) (h : mX3_read p1 M = some r) : tr_I yX3_read (xX3_read) [.ref 4, .ref p1] M (some (.int r.1)) r.2 := by
  refine tr_I.of (Z := fun q : Int32 × tr_M => (some (.int r.1) : Option Value) = some (.int q.1) ∧ r.2 = q.2) pn_X3 rfl gdC (Nat.le_of_ble_eq_true rfl) (fun Wt => ?_) h ⟨rfl, rfl⟩
  unfold mX3_read
  refine tr_V.aload_n (i := 0) dX3_read_0 rfl rfl ?_
  refine tr_V.aload_n (i := 1) dX3_read_1 rfl rfl ?_
  refine tr_V.bd (fun M1 h2 => ?_)
  refine tr_V.putM (isL_lt hp1) fl_X3_18 shC_4 rfl dX3_read_2 h2 ?_
  refine tr_V.aload_n (i := 0) dX3_read_5 rfl rfl ?_
  refine tr_V.iconst (v := (0 : Int32)) dX3_read_6 (by decide) ?_
  refine tr_V.bd (fun M3 h4 => ?_)
  refine tr_V.putI fl_X3_22 shC_4 rfl dX3_read_7 h4 ?_
  refine tr_V.aload_n (i := 0) dX3_read_10 rfl rfl ?_
  refine tr_V.getR (Nat.succ_pos _) fl_X3_12 shC_4 rfl dX3_read_11 ?_
  refine tr_V.iconst (v := (0 : Int32)) dX3_read_14 (by decide) ?_
  refine tr_V.bd (fun c5 h6 => ?_)
  refine tr_V.callV (C_X5_clear 5 isW_5 (0 : Int32) M3 _ h6) yk_X5_clear iv_X5_clear ml_X3_26 shC_5 rfl ⟨rfl, Nat.le_of_ble_eq_true rfl⟩ rfl (Nat.le_of_ble_eq_true rfl) rfl dX3_read_15 ?_
  refine tr_V.aload_n (i := 0) dX3_read_18 rfl rfl ?_
  refine tr_V.bd (fun c7 h8 => ?_)
  refine tr_V.callV (C_X3_skipBlanks c5 _ h8) yk_X3_skipBlanks iv_X3_skipBlanks ml_X3_30 shC_4 rfl ⟨rfl, Nat.le_of_ble_eq_true rfl⟩ rfl (Nat.le_of_ble_eq_true rfl) rfl dX3_read_19 ?_
  refine tr_V.aload_n (i := 0) dX3_read_22 rfl rfl ?_
  refine tr_V.bd (fun c9 h10 => ?_)
  refine tr_V.callV (C_X3_readHead c7 _ h10) yk_X3_readHead iv_X3_readHead ml_X3_33 shC_4 rfl ⟨rfl, Nat.le_of_ble_eq_true rfl⟩ rfl (Nat.le_of_ble_eq_true rfl) rfl dX3_read_23 ?_
  refine tr_V.if_ne (tgt := 34) dX3_read_26 (by decide) ?_ ?_
  · refine tr_V.aload_n (i := 0) dX3_read_29 rfl rfl ?_
    refine tr_V.getI fl_X3_22 shC_4 rfl dX3_read_30 ?_
    exact tr_V.iret dX3_read_33 rfl (fun h => h)
  · refine tr_V.iconst (v := (0 : Int32)) dX3_read_34 (by decide) ?_
    refine tr_V.istore_n (i := 2) dX3_read_35 rfl (Nat.le_of_ble_eq_true rfl) rfl ?_
    refine tr_V.loop (σ := Int32 × tr_M) (step := mX3_read_l36) (L := fun s11 => [(0, some (.ref 4)), (2, some (.int s11.1))]) (Mf := fun s11 => s11.2) ?_ ((0 : Int32), c9.2) ⟨rfl, rfl, trivial⟩
    intro s11
    refine tr_V.iload_n (i := 2) dX3_read_36 rfl rfl ?_
    refine tr_V.bipush (v := (120 : Int32)) dX3_read_37 (by decide) ?_
    refine tr_V.icmp_gt (tgt := 81) dX3_read_39 (by decide) ?_ ?_
    · refine tr_V.bipush (v := (-9 : Int32)) dX3_read_81 (by decide) ?_
      exact tr_V.iret dX3_read_83 rfl (fun h => h)
    · refine tr_V.aload_n (i := 0) dX3_read_42 rfl rfl ?_
      refine tr_V.bd (fun c12 h13 => ?_)
      refine tr_V.callV (C_X3_skipBlanks s11.2 _ h13) yk_X3_skipBlanks iv_X3_skipBlanks ml_X3_30 shC_4 rfl ⟨rfl, Nat.le_of_ble_eq_true rfl⟩ rfl (Nat.le_of_ble_eq_true rfl) rfl dX3_read_43 ?_
      refine tr_V.aload_n (i := 0) dX3_read_46 rfl rfl ?_
      refine tr_V.getI fl_X3_22 shC_4 rfl dX3_read_47 ?_
      refine tr_V.aload_n (i := 0) dX3_read_50 rfl rfl ?_
      refine tr_V.getM fl_X3_18 shC_4 rfl dX3_read_51 ?_
      refine tr_V.gd (fun h14 => ?_)
      refine tr_V.getI fl_X3_37 (shL (isL_of h14)) rfl dX3_read_54 ?_
      refine tr_V.icmp_lt (tgt := 63) dX3_read_57 (by decide) ?_ ?_
      · refine tr_V.aload_n (i := 0) dX3_read_63 rfl rfl ?_
        refine tr_V.bd (fun c15 h16 => ?_)
        refine tr_V.callV (C_X3_readItem c12 _ h16) yk_X3_readItem iv_X3_readItem ml_X3_42 shC_4 rfl ⟨rfl, Nat.le_of_ble_eq_true rfl⟩ rfl (Nat.le_of_ble_eq_true rfl) rfl dX3_read_64 ?_
        refine tr_V.if_ne (tgt := 75) dX3_read_67 (by decide) ?_ ?_
        · refine tr_V.aload_n (i := 0) dX3_read_70 rfl rfl ?_
          refine tr_V.getI fl_X3_22 shC_4 rfl dX3_read_71 ?_
          exact tr_V.iret dX3_read_74 rfl (fun h => h)
        · refine tr_V.iinc (cst := (1 : Int32)) dX3_read_75 rfl (by decide) rfl ?_
          refine tr_V.goto (tgt := 36) dX3_read_78 (by decide) ?_
          exact tr_V.to (fun h => h) ⟨rfl, rfl, trivial⟩
      · refine tr_V.bipush (v := (-9 : Int32)) dX3_read_60 (by decide) ?_
        exact tr_V.iret dX3_read_62 rfl (fun h => h)
abbrev xX5_everything : tr_X := (cX5_everything, 1, RX5, (some .int), 1, shC, 81)
theorem cw_X5_everything : Cond.code yX5_everything cX5_everything 1 (some .int) ∈ tr_tbl := tr_in 629 (by decide +kernel) rfl
theorem yk_X5_everything : tr_yk yX5_everything (xX5_everything) 0 := ⟨cw_X5_everything, in_X5, ⟨by decide +kernel, by decide +kernel, by decide +kernel⟩, Nat.le_of_ble_eq_true rfl⟩
theorem iv_X5_everything : Cond.instanceMethod yX5_everything ∈ tr_tbl ∧ Cond.selects (yX5_everything).cls yX5_everything yX5_everything ∈ tr_tbl := ⟨tr_in 627 (by decide +kernel) rfl, tr_in 628 (by decide +kernel) rfl⟩
def mX5_everything' (o : Nat) (M : tr_M) : Option Int32 :=
  some (((1 : Int32) <<< ((M.1 o 0) &&& 31)) - (1 : Int32))
def mX5_everything (o : Nat) (M : tr_M) : Int32 :=
  (((1 : Int32) <<< ((M.1 o 0) &&& 31)) - (1 : Int32))
theorem mX5_everything_eq (o : Nat) (M : tr_M) : mX5_everything' o M = some (mX5_everything o M) := by
  unfold mX5_everything' mX5_everything
  rfl
set_option maxRecDepth 100000 in
set_option maxHeartbeats 4000000 in
theorem C_X5_everything (o : Nat) (ho : tr_isW o) (M : tr_M) : tr_I yX5_everything (xX5_everything) [.ref o] M (some (.int (mX5_everything o M))) M := by
  refine tr_I.of (Z := fun q : Int32 => (some (.int (mX5_everything o M)) : Option Value) = some (.int q) ∧ M = M) pn_X5 rfl gdC (Nat.le_of_ble_eq_true rfl) (fun Wt => ?_) (mX5_everything_eq o M) ⟨rfl, rfl⟩
  unfold mX5_everything'
  refine tr_V.iconst (v := (1 : Int32)) dX5_everything_0 (by decide) ?_
  refine tr_V.aload_n (i := 0) dX5_everything_1 rfl rfl ?_
  refine tr_V.getI fl_X5_9 (shW ho) rfl dX5_everything_2 ?_
  refine tr_V.ishl dX5_everything_5 ?_
  refine tr_V.iconst (v := (1 : Int32)) dX5_everything_6 (by decide) ?_
  refine tr_V.isub dX5_everything_7 ?_
  exact tr_V.iret dX5_everything_8 rfl (fun h => h)
abbrev xX4_pinnedOut : tr_X := (cX4_pinnedOut, 3, RX4, (some .int), 2, shC, 81)
theorem cw_X4_pinnedOut : Cond.code yX4_pinnedOut cX4_pinnedOut 3 (some .int) ∈ tr_tbl := tr_in 698 (by decide +kernel) rfl
theorem yk_X4_pinnedOut : tr_yk yX4_pinnedOut (xX4_pinnedOut) 1 := ⟨cw_X4_pinnedOut, in_X4, ⟨by decide +kernel, by decide +kernel, by decide +kernel⟩, Nat.le_of_ble_eq_true rfl⟩
theorem iv_X4_pinnedOut : Cond.instanceMethod yX4_pinnedOut ∈ tr_tbl ∧ Cond.selects (yX4_pinnedOut).cls yX4_pinnedOut yX4_pinnedOut ∈ tr_tbl := ⟨tr_in 697 (by decide +kernel) rfl, tr_in 19 (by decide +kernel) rfl⟩
def mX4_pinnedOut (p1 : Int32) (M : tr_M) : Option (Int32) :=
  if (M.1 25 13) = (-9 : Int32) then (
    some (0 : Int32)
  ) else (
    Option.bind (mJ6_bitCount_0f7a4 p1) (fun c1 =>
    if c1 = (M.1 25 14) then (
      some (((1 : Int32) <<< ((M.1 25 13) &&& 31)) ^^^ (-1 : Int32))
    ) else (
      some ((1 : Int32) <<< ((M.1 25 13) &&& 31))
    )
    )
  )
set_option maxRecDepth 100000 in
set_option maxHeartbeats 4000000 in
theorem C_X4_pinnedOut (p1 : Int32) (M : tr_M) (r : Int32) (h : mX4_pinnedOut p1 M = some r) : tr_I yX4_pinnedOut (xX4_pinnedOut) [.ref 25, .int p1] M (some (.int r)) M := by
  refine tr_I.of (Z := fun q : Int32 => (some (.int r) : Option Value) = some (.int q) ∧ M = M) pn_X4 rfl gdC (Nat.le_of_ble_eq_true rfl) (fun Wt => ?_) h ⟨rfl, rfl⟩
  unfold mX4_pinnedOut
  refine tr_V.aload_n (i := 0) dX4_pinnedOut_0 rfl rfl ?_
  refine tr_V.getI fl_X4_56 shC_25 rfl dX4_pinnedOut_1 ?_
  refine tr_V.bipush (v := (-9 : Int32)) dX4_pinnedOut_4 (by decide) ?_
  refine tr_V.icmp_ne (tgt := 11) dX4_pinnedOut_6 (by decide) ?_ ?_
  · refine tr_V.iconst (v := (0 : Int32)) dX4_pinnedOut_9 (by decide) ?_
    exact tr_V.iret dX4_pinnedOut_10 rfl (fun h => h)
  · refine tr_V.iconst (v := (1 : Int32)) dX4_pinnedOut_11 (by decide) ?_
    refine tr_V.aload_n (i := 0) dX4_pinnedOut_12 rfl rfl ?_
    refine tr_V.getI fl_X4_56 shC_25 rfl dX4_pinnedOut_13 ?_
    refine tr_V.ishl dX4_pinnedOut_16 ?_
    refine tr_V.istore_n (i := 2) dX4_pinnedOut_17 rfl (Nat.le_of_ble_eq_true rfl) rfl ?_
    refine tr_V.iload_n (i := 1) dX4_pinnedOut_18 rfl rfl ?_
    refine tr_V.bd (fun c1 h2 => ?_)
    refine tr_V.callS (C_J6_bitCount_0f7a4 shC 81 gdC p1 M _ h2) yk_J6_bitCount_0f7a4 sc_J6_bitCount_0f7a4 ml_X4_99 ⟨rfl, Nat.le_of_ble_eq_true rfl⟩ rfl (Nat.le_of_ble_eq_true rfl) rfl dX4_pinnedOut_19 ?_
    refine tr_V.aload_n (i := 0) dX4_pinnedOut_22 rfl rfl ?_
    refine tr_V.getI fl_X4_60 shC_25 rfl dX4_pinnedOut_23 ?_
    refine tr_V.icmp_ne (tgt := 35) dX4_pinnedOut_26 (by decide) ?_ ?_
    · refine tr_V.iload_n (i := 2) dX4_pinnedOut_29 rfl rfl ?_
      refine tr_V.iconst (v := (-1 : Int32)) dX4_pinnedOut_30 (by decide) ?_
      refine tr_V.ixor dX4_pinnedOut_31 ?_
      refine tr_V.goto (tgt := 36) dX4_pinnedOut_32 (by decide) ?_
      exact tr_V.iret dX4_pinnedOut_36 rfl (fun h => h)
    · refine tr_V.iload_n (i := 2) dX4_pinnedOut_35 rfl rfl ?_
      exact tr_V.iret dX4_pinnedOut_36 rfl (fun h => h)
abbrev xX5_isOff : tr_X := (cX5_isOff, 2, RX5, (some .boolean), 1, shC, 81)
theorem cw_X5_isOff : Cond.code yX5_isOff cX5_isOff 2 (some .boolean) ∈ tr_tbl := tr_in 574 (by decide +kernel) rfl
theorem yk_X5_isOff : tr_yk yX5_isOff (xX5_isOff) 1 := ⟨cw_X5_isOff, in_X5, ⟨by decide +kernel, by decide +kernel, by decide +kernel⟩, Nat.le_of_ble_eq_true rfl⟩
theorem iv_X5_isOff : Cond.instanceMethod yX5_isOff ∈ tr_tbl ∧ Cond.selects (yX5_isOff).cls yX5_isOff yX5_isOff ∈ tr_tbl := ⟨tr_in 572 (by decide +kernel) rfl, tr_in 573 (by decide +kernel) rfl⟩
def mX5_isOff' (o : Nat) (p1 : Int32) (M : tr_M) : Option Int32 :=
  if (((M.1 o 2) >>> (p1 &&& 31)) &&& (1 : Int32)) = 0 then (
    some (0 : Int32)
  ) else (
    some (1 : Int32)
  )
def mX5_isOff (o : Nat) (p1 : Int32) (M : tr_M) : Int32 :=
  if (((M.1 o 2) >>> (p1 &&& 31)) &&& (1 : Int32)) = 0 then (
    (0 : Int32)
  ) else (
    (1 : Int32)
  )
theorem mX5_isOff_eq (o : Nat) (p1 : Int32) (M : tr_M) : mX5_isOff' o p1 M = some (mX5_isOff o p1 M) := by
  unfold mX5_isOff' mX5_isOff
  repeat' split
  all_goals rfl
set_option maxRecDepth 100000 in
set_option maxHeartbeats 4000000 in
theorem C_X5_isOff (o : Nat) (ho : tr_isW o) (p1 : Int32) (M : tr_M) : tr_I yX5_isOff (xX5_isOff) [.ref o, .int p1] M (some (.int (mX5_isOff o p1 M))) M := by
  refine tr_I.of (Z := fun q : Int32 => (some (.int (mX5_isOff o p1 M)) : Option Value) = some (.int q) ∧ M = M) pn_X5 rfl gdC (Nat.le_of_ble_eq_true rfl) (fun Wt => ?_) (mX5_isOff_eq o p1 M) ⟨rfl, rfl⟩
  unfold mX5_isOff'
  refine tr_V.aload_n (i := 0) dX5_isOff_0 rfl rfl ?_
  refine tr_V.getI fl_X5_18 (shW ho) rfl dX5_isOff_1 ?_
  refine tr_V.iload_n (i := 1) dX5_isOff_4 rfl rfl ?_
  refine tr_V.ishr dX5_isOff_5 ?_
  refine tr_V.iconst (v := (1 : Int32)) dX5_isOff_6 (by decide) ?_
  refine tr_V.iand dX5_isOff_7 ?_
  refine tr_V.if_eq (tgt := 15) dX5_isOff_8 (by decide) ?_ ?_
  · refine tr_V.iconst (v := (0 : Int32)) dX5_isOff_15 (by decide) ?_
    exact tr_V.zret (by decide) dX5_isOff_16 rfl (fun h => h)
  · refine tr_V.iconst (v := (1 : Int32)) dX5_isOff_11 (by decide) ?_
    refine tr_V.goto (tgt := 16) dX5_isOff_12 (by decide) ?_
    exact tr_V.zret (by decide) dX5_isOff_16 rfl (fun h => h)
abbrev xX5_barredBehind : tr_X := (cX5_barredBehind, 3, RX5, (some .int), 2, shC, 81)
theorem cw_X5_barredBehind : Cond.code yX5_barredBehind cX5_barredBehind 3 (some .int) ∈ tr_tbl := tr_in 708 (by decide +kernel) rfl
theorem yk_X5_barredBehind : tr_yk yX5_barredBehind (xX5_barredBehind) 2 := ⟨cw_X5_barredBehind, in_X5, ⟨by decide +kernel, by decide +kernel, by decide +kernel⟩, Nat.le_of_ble_eq_true rfl⟩
theorem iv_X5_barredBehind : Cond.instanceMethod yX5_barredBehind ∈ tr_tbl ∧ Cond.selects (yX5_barredBehind).cls yX5_barredBehind yX5_barredBehind ∈ tr_tbl := ⟨tr_in 706 (by decide +kernel) rfl, tr_in 707 (by decide +kernel) rfl⟩
def mX5_barredBehind (o : Nat) (p1 : Int32) (p2 : Int32) (M : tr_M) : Option (Int32) :=
  if (mX5_isOff o p1 M) = 0 then (
    Option.bind (tr_rd 8 M (o + 14) p1) (fun a3 =>
    if a3 = (1 : Int32) then (
      Option.bind (tr_rd 8 M (o + 15) p1) (fun a5 =>
      if ((p2 >>> (a5 &&& 31)) &&& (1 : Int32)) = 0 then (
        Option.bind (tr_rd 8 M (o + 16) p1) (fun a7 =>
        some ((1 : Int32) <<< (a7 &&& 31))
        )
      ) else (
        some (0 : Int32)
      )
      )
    ) else (
    if a3 = (2 : Int32) then (
      some (0 : Int32)
    ) else (
    if a3 = (3 : Int32) then (
      Option.bind (mJ6_bitCount_0f7a4 p2) (fun c11 =>
      Option.bind (tr_rd 8 M (o + 16) p1) (fun a13 =>
      if c11 = a13 then (
        some (0 : Int32)
      ) else (
        Option.bind (tr_rd 8 M (o + 15) p1) (fun a15 =>
        some ((1 : Int32) <<< (a15 &&& 31))
        )
      )
      )
      )
    ) else (
    if a3 = (4 : Int32) then (
      Option.bind (mJ6_bitCount_0f7a4 p2) (fun c18 =>
      Option.bind (tr_rd 8 M (o + 16) p1) (fun a20 =>
      if a20 < c18 then (
        Option.bind (tr_rd 8 M (o + 15) p1) (fun a22 =>
        some ((1 : Int32) <<< (a22 &&& 31))
        )
      ) else (
        some (0 : Int32)
      )
      )
      )
    ) else (
    if a3 = (5 : Int32) then (
      some (0 : Int32)
    ) else (
    if a3 = (6 : Int32) then (
      Option.bind (tr_rd 8 M (o + 16) p1) (fun a26 =>
      Option.bind (tr_rd 8 M (o + 17) p1) (fun a28 =>
      if ((p2 >>> (a26 &&& 31)) &&& (1 : Int32)) = ((p2 >>> (a28 &&& 31)) &&& (1 : Int32)) then (
        Option.bind (tr_rd 8 M (o + 15) p1) (fun a30 =>
        some ((1 : Int32) <<< (a30 &&& 31))
        )
      ) else (
        some (0 : Int32)
      )
      )
      )
    ) else (
      some (0 : Int32)
    ))))))
    )
  ) else (
    some (0 : Int32)
  )
set_option maxRecDepth 100000 in
set_option maxHeartbeats 4000000 in
theorem C_X5_barredBehind (o : Nat) (ho : tr_isW o) (p1 : Int32) (p2 : Int32) (M : tr_M) (r : Int32) (h : mX5_barredBehind o p1 p2 M = some r) : tr_I yX5_barredBehind (xX5_barredBehind) [.ref o, .int p1, .int p2] M (some (.int r)) M := by
  refine tr_I.of (Z := fun q : Int32 => (some (.int r) : Option Value) = some (.int q) ∧ M = M) pn_X5 rfl gdC (Nat.le_of_ble_eq_true rfl) (fun Wt => ?_) h ⟨rfl, rfl⟩
  unfold mX5_barredBehind
  refine tr_V.aload_n (i := 0) dX5_barredBehind_0 rfl rfl ?_
  refine tr_V.iload_n (i := 1) dX5_barredBehind_1 rfl rfl ?_
  refine tr_V.callV (C_X5_isOff o ho p1 M) yk_X5_isOff iv_X5_isOff ml_X5_83 (shW ho) rfl ⟨rfl, Nat.le_of_ble_eq_true rfl⟩ rfl (Nat.le_of_ble_eq_true rfl) rfl dX5_barredBehind_2 ?_
  refine tr_V.if_eq (tgt := 10) dX5_barredBehind_5 (by decide) ?_ ?_
  · refine tr_V.aload_n (i := 0) dX5_barredBehind_10 rfl rfl ?_
    refine tr_V.getR (Nat.succ_pos _) fl_X5_33 (shW ho) rfl dX5_barredBehind_11 ?_
    refine tr_V.iload_n (i := 1) dX5_barredBehind_14 rfl rfl ?_
    refine tr_V.bd (fun a3 h4 => ?_)
    refine tr_V.iald h4 (shW_14 ho) dX5_barredBehind_15 ?_
    refine tr_V.case (k := (1 : Int32)) (fun c9 => ?_) (fun c9 => ?_)
    · refine tr_V.tableIn (tgt := 56) dX5_barredBehind_16 c9 (by decide) rfl (by decide) ?_
      refine tr_V.iload_n (i := 2) dX5_barredBehind_56 rfl rfl ?_
      refine tr_V.aload_n (i := 0) dX5_barredBehind_57 rfl rfl ?_
      refine tr_V.getR (Nat.succ_pos _) fl_X5_36 (shW ho) rfl dX5_barredBehind_58 ?_
      refine tr_V.iload_n (i := 1) dX5_barredBehind_61 rfl rfl ?_
      refine tr_V.bd (fun a5 h6 => ?_)
      refine tr_V.iald h6 (shW_15 ho) dX5_barredBehind_62 ?_
      refine tr_V.ishr dX5_barredBehind_63 ?_
      refine tr_V.iconst (v := (1 : Int32)) dX5_barredBehind_64 (by decide) ?_
      refine tr_V.iand dX5_barredBehind_65 ?_
      refine tr_V.if_eq (tgt := 73) dX5_barredBehind_66 (by decide) ?_ ?_
      · refine tr_V.iconst (v := (1 : Int32)) dX5_barredBehind_73 (by decide) ?_
        refine tr_V.aload_n (i := 0) dX5_barredBehind_74 rfl rfl ?_
        refine tr_V.getR (Nat.succ_pos _) fl_X5_39 (shW ho) rfl dX5_barredBehind_75 ?_
        refine tr_V.iload_n (i := 1) dX5_barredBehind_78 rfl rfl ?_
        refine tr_V.bd (fun a7 h8 => ?_)
        refine tr_V.iald h8 (shW_16 ho) dX5_barredBehind_79 ?_
        refine tr_V.ishl dX5_barredBehind_80 ?_
        exact tr_V.iret dX5_barredBehind_81 rfl (fun h => h)
      · refine tr_V.iconst (v := (0 : Int32)) dX5_barredBehind_69 (by decide) ?_
        refine tr_V.goto (tgt := 81) dX5_barredBehind_70 (by decide) ?_
        exact tr_V.iret dX5_barredBehind_81 rfl (fun h => h)
    · refine tr_V.case (k := (2 : Int32)) (fun c10 => ?_) (fun c10 => ?_)
      · refine tr_V.tableIn (tgt := 170) dX5_barredBehind_16 c10 (by decide) rfl (by decide) ?_
        refine tr_V.iconst (v := (0 : Int32)) dX5_barredBehind_170 (by decide) ?_
        exact tr_V.iret dX5_barredBehind_171 rfl (fun h => h)
      · refine tr_V.case (k := (3 : Int32)) (fun c17 => ?_) (fun c17 => ?_)
        · refine tr_V.tableIn (tgt := 82) dX5_barredBehind_16 c17 (by decide) rfl (by decide) ?_
          refine tr_V.iload_n (i := 2) dX5_barredBehind_82 rfl rfl ?_
          refine tr_V.bd (fun c11 h12 => ?_)
          refine tr_V.callS (C_J6_bitCount_0f7a4 shC 81 gdC p2 M _ h12) yk_J6_bitCount_0f7a4 sc_J6_bitCount_0f7a4 ml_X5_73 ⟨rfl, Nat.le_of_ble_eq_true rfl⟩ rfl (Nat.le_of_ble_eq_true rfl) rfl dX5_barredBehind_83 ?_
          refine tr_V.aload_n (i := 0) dX5_barredBehind_86 rfl rfl ?_
          refine tr_V.getR (Nat.succ_pos _) fl_X5_39 (shW ho) rfl dX5_barredBehind_87 ?_
          refine tr_V.iload_n (i := 1) dX5_barredBehind_90 rfl rfl ?_
          refine tr_V.bd (fun a13 h14 => ?_)
          refine tr_V.iald h14 (shW_16 ho) dX5_barredBehind_91 ?_
          refine tr_V.icmp_ne (tgt := 99) dX5_barredBehind_92 (by decide) ?_ ?_
          · refine tr_V.iconst (v := (0 : Int32)) dX5_barredBehind_95 (by decide) ?_
            refine tr_V.goto (tgt := 107) dX5_barredBehind_96 (by decide) ?_
            exact tr_V.iret dX5_barredBehind_107 rfl (fun h => h)
          · refine tr_V.iconst (v := (1 : Int32)) dX5_barredBehind_99 (by decide) ?_
            refine tr_V.aload_n (i := 0) dX5_barredBehind_100 rfl rfl ?_
            refine tr_V.getR (Nat.succ_pos _) fl_X5_36 (shW ho) rfl dX5_barredBehind_101 ?_
            refine tr_V.iload_n (i := 1) dX5_barredBehind_104 rfl rfl ?_
            refine tr_V.bd (fun a15 h16 => ?_)
            refine tr_V.iald h16 (shW_15 ho) dX5_barredBehind_105 ?_
            refine tr_V.ishl dX5_barredBehind_106 ?_
            exact tr_V.iret dX5_barredBehind_107 rfl (fun h => h)
        · refine tr_V.case (k := (4 : Int32)) (fun c24 => ?_) (fun c24 => ?_)
          · refine tr_V.tableIn (tgt := 108) dX5_barredBehind_16 c24 (by decide) rfl (by decide) ?_
            refine tr_V.iload_n (i := 2) dX5_barredBehind_108 rfl rfl ?_
            refine tr_V.bd (fun c18 h19 => ?_)
            refine tr_V.callS (C_J6_bitCount_0f7a4 shC 81 gdC p2 M _ h19) yk_J6_bitCount_0f7a4 sc_J6_bitCount_0f7a4 ml_X5_73 ⟨rfl, Nat.le_of_ble_eq_true rfl⟩ rfl (Nat.le_of_ble_eq_true rfl) rfl dX5_barredBehind_109 ?_
            refine tr_V.aload_n (i := 0) dX5_barredBehind_112 rfl rfl ?_
            refine tr_V.getR (Nat.succ_pos _) fl_X5_39 (shW ho) rfl dX5_barredBehind_113 ?_
            refine tr_V.iload_n (i := 1) dX5_barredBehind_116 rfl rfl ?_
            refine tr_V.bd (fun a20 h21 => ?_)
            refine tr_V.iald h21 (shW_16 ho) dX5_barredBehind_117 ?_
            refine tr_V.icmp_gt (tgt := 125) dX5_barredBehind_118 (by decide) ?_ ?_
            · refine tr_V.iconst (v := (1 : Int32)) dX5_barredBehind_125 (by decide) ?_
              refine tr_V.aload_n (i := 0) dX5_barredBehind_126 rfl rfl ?_
              refine tr_V.getR (Nat.succ_pos _) fl_X5_36 (shW ho) rfl dX5_barredBehind_127 ?_
              refine tr_V.iload_n (i := 1) dX5_barredBehind_130 rfl rfl ?_
              refine tr_V.bd (fun a22 h23 => ?_)
              refine tr_V.iald h23 (shW_15 ho) dX5_barredBehind_131 ?_
              refine tr_V.ishl dX5_barredBehind_132 ?_
              exact tr_V.iret dX5_barredBehind_133 rfl (fun h => h)
            · refine tr_V.iconst (v := (0 : Int32)) dX5_barredBehind_121 (by decide) ?_
              refine tr_V.goto (tgt := 133) dX5_barredBehind_122 (by decide) ?_
              exact tr_V.iret dX5_barredBehind_133 rfl (fun h => h)
          · refine tr_V.case (k := (5 : Int32)) (fun c25 => ?_) (fun c25 => ?_)
            · refine tr_V.tableIn (tgt := 170) dX5_barredBehind_16 c25 (by decide) rfl (by decide) ?_
              refine tr_V.iconst (v := (0 : Int32)) dX5_barredBehind_170 (by decide) ?_
              exact tr_V.iret dX5_barredBehind_171 rfl (fun h => h)
            · refine tr_V.case (k := (6 : Int32)) (fun c32 => ?_) (fun c32 => ?_)
              · refine tr_V.tableIn (tgt := 134) dX5_barredBehind_16 c32 (by decide) rfl (by decide) ?_
                refine tr_V.iload_n (i := 2) dX5_barredBehind_134 rfl rfl ?_
                refine tr_V.aload_n (i := 0) dX5_barredBehind_135 rfl rfl ?_
                refine tr_V.getR (Nat.succ_pos _) fl_X5_39 (shW ho) rfl dX5_barredBehind_136 ?_
                refine tr_V.iload_n (i := 1) dX5_barredBehind_139 rfl rfl ?_
                refine tr_V.bd (fun a26 h27 => ?_)
                refine tr_V.iald h27 (shW_16 ho) dX5_barredBehind_140 ?_
                refine tr_V.ishr dX5_barredBehind_141 ?_
                refine tr_V.iconst (v := (1 : Int32)) dX5_barredBehind_142 (by decide) ?_
                refine tr_V.iand dX5_barredBehind_143 ?_
                refine tr_V.iload_n (i := 2) dX5_barredBehind_144 rfl rfl ?_
                refine tr_V.aload_n (i := 0) dX5_barredBehind_145 rfl rfl ?_
                refine tr_V.getR (Nat.succ_pos _) fl_X5_42 (shW ho) rfl dX5_barredBehind_146 ?_
                refine tr_V.iload_n (i := 1) dX5_barredBehind_149 rfl rfl ?_
                refine tr_V.bd (fun a28 h29 => ?_)
                refine tr_V.iald h29 (shW_17 ho) dX5_barredBehind_150 ?_
                refine tr_V.ishr dX5_barredBehind_151 ?_
                refine tr_V.iconst (v := (1 : Int32)) dX5_barredBehind_152 (by decide) ?_
                refine tr_V.iand dX5_barredBehind_153 ?_
                refine tr_V.icmp_eq (tgt := 161) dX5_barredBehind_154 (by decide) ?_ ?_
                · refine tr_V.iconst (v := (1 : Int32)) dX5_barredBehind_161 (by decide) ?_
                  refine tr_V.aload_n (i := 0) dX5_barredBehind_162 rfl rfl ?_
                  refine tr_V.getR (Nat.succ_pos _) fl_X5_36 (shW ho) rfl dX5_barredBehind_163 ?_
                  refine tr_V.iload_n (i := 1) dX5_barredBehind_166 rfl rfl ?_
                  refine tr_V.bd (fun a30 h31 => ?_)
                  refine tr_V.iald h31 (shW_15 ho) dX5_barredBehind_167 ?_
                  refine tr_V.ishl dX5_barredBehind_168 ?_
                  exact tr_V.iret dX5_barredBehind_169 rfl (fun h => h)
                · refine tr_V.iconst (v := (0 : Int32)) dX5_barredBehind_157 (by decide) ?_
                  refine tr_V.goto (tgt := 169) dX5_barredBehind_158 (by decide) ?_
                  exact tr_V.iret dX5_barredBehind_169 rfl (fun h => h)
              · refine tr_V.tableOut (tgt := 170) dX5_barredBehind_16 (by have := lv_neT c9 (a := 1) (by decide); have := lv_neT c10 (a := 2) (by decide); have := lv_neT c17 (a := 3) (by decide); have := lv_neT c24 (a := 4) (by decide); have := lv_neT c25 (a := 5) (by decide); have := lv_neT c32 (a := 6) (by decide); omega) (by decide) ?_
                refine tr_V.iconst (v := (0 : Int32)) dX5_barredBehind_170 (by decide) ?_
                exact tr_V.iret dX5_barredBehind_171 rfl (fun h => h)
  · refine tr_V.iconst (v := (0 : Int32)) dX5_barredBehind_8 (by decide) ?_
    exact tr_V.iret dX5_barredBehind_9 rfl (fun h => h)
abbrev xX5_barredNextTo : tr_X := (cX5_barredNextTo, 3, RX5, (some .int), 2, shC, 81)
theorem cw_X5_barredNextTo : Cond.code yX5_barredNextTo cX5_barredNextTo 3 (some .int) ∈ tr_tbl := tr_in 713 (by decide +kernel) rfl
theorem yk_X5_barredNextTo : tr_yk yX5_barredNextTo (xX5_barredNextTo) 2 := ⟨cw_X5_barredNextTo, in_X5, ⟨by decide +kernel, by decide +kernel, by decide +kernel⟩, Nat.le_of_ble_eq_true rfl⟩
theorem iv_X5_barredNextTo : Cond.instanceMethod yX5_barredNextTo ∈ tr_tbl ∧ Cond.selects (yX5_barredNextTo).cls yX5_barredNextTo yX5_barredNextTo ∈ tr_tbl := ⟨tr_in 711 (by decide +kernel) rfl, tr_in 712 (by decide +kernel) rfl⟩
def mX5_barredNextTo (o : Nat) (p1 : Int32) (p2 : Int32) (M : tr_M) : Option (Int32) :=
  if (mX5_isOff o p1 M) = 0 then (
    Option.bind (tr_rd 8 M (o + 14) p1) (fun a3 =>
    if a3 = (2 : Int32) then (
      Option.bind (tr_rd 8 M (o + 15) p1) (fun a5 =>
      if p2 = a5 then (
        some (0 : Int32)
      ) else (
        Option.bind (tr_rd 8 M (o + 16) p1) (fun a7 =>
        some ((1 : Int32) <<< (a7 &&& 31))
        )
      )
      )
    ) else (
    if a3 = (5 : Int32) then (
      Option.bind (tr_rd 8 M (o + 15) p1) (fun a10 =>
      if p2 = a10 then (
        Option.bind (tr_rd 8 M (o + 16) p1) (fun a12 =>
        some ((1 : Int32) <<< (a12 &&& 31))
        )
      ) else (
        Option.bind (tr_rd 8 M (o + 16) p1) (fun a14 =>
        if p2 = a14 then (
          Option.bind (tr_rd 8 M (o + 15) p1) (fun a16 =>
          some ((1 : Int32) <<< (a16 &&& 31))
          )
        ) else (
          some (0 : Int32)
        )
        )
      )
      )
    ) else (
      some (0 : Int32)
    ))
    )
  ) else (
    some (0 : Int32)
  )
set_option maxRecDepth 100000 in
set_option maxHeartbeats 4000000 in
theorem C_X5_barredNextTo (o : Nat) (ho : tr_isW o) (p1 : Int32) (p2 : Int32) (M : tr_M) (r : Int32) (h : mX5_barredNextTo o p1 p2 M = some r) : tr_I yX5_barredNextTo (xX5_barredNextTo) [.ref o, .int p1, .int p2] M (some (.int r)) M := by
  refine tr_I.of (Z := fun q : Int32 => (some (.int r) : Option Value) = some (.int q) ∧ M = M) pn_X5 rfl gdC (Nat.le_of_ble_eq_true rfl) (fun Wt => ?_) h ⟨rfl, rfl⟩
  unfold mX5_barredNextTo
  refine tr_V.aload_n (i := 0) dX5_barredNextTo_0 rfl rfl ?_
  refine tr_V.iload_n (i := 1) dX5_barredNextTo_1 rfl rfl ?_
  refine tr_V.callV (C_X5_isOff o ho p1 M) yk_X5_isOff iv_X5_isOff ml_X5_83 (shW ho) rfl ⟨rfl, Nat.le_of_ble_eq_true rfl⟩ rfl (Nat.le_of_ble_eq_true rfl) rfl dX5_barredNextTo_2 ?_
  refine tr_V.if_eq (tgt := 10) dX5_barredNextTo_5 (by decide) ?_ ?_
  · refine tr_V.aload_n (i := 0) dX5_barredNextTo_10 rfl rfl ?_
    refine tr_V.getR (Nat.succ_pos _) fl_X5_33 (shW ho) rfl dX5_barredNextTo_11 ?_
    refine tr_V.iload_n (i := 1) dX5_barredNextTo_14 rfl rfl ?_
    refine tr_V.bd (fun a3 h4 => ?_)
    refine tr_V.iald h4 (shW_14 ho) dX5_barredNextTo_15 ?_
    refine tr_V.case (k := (2 : Int32)) (fun c9 => ?_) (fun c9 => ?_)
    · refine tr_V.lookup (tgt := 44) (off := 28) dX5_barredNextTo_16 (by decide) (by rw [c9]; decide) (by decide) ?_
      refine tr_V.iload_n (i := 2) dX5_barredNextTo_44 rfl rfl ?_
      refine tr_V.aload_n (i := 0) dX5_barredNextTo_45 rfl rfl ?_
      refine tr_V.getR (Nat.succ_pos _) fl_X5_36 (shW ho) rfl dX5_barredNextTo_46 ?_
      refine tr_V.iload_n (i := 1) dX5_barredNextTo_49 rfl rfl ?_
      refine tr_V.bd (fun a5 h6 => ?_)
      refine tr_V.iald h6 (shW_15 ho) dX5_barredNextTo_50 ?_
      refine tr_V.icmp_ne (tgt := 58) dX5_barredNextTo_51 (by decide) ?_ ?_
      · refine tr_V.iconst (v := (0 : Int32)) dX5_barredNextTo_54 (by decide) ?_
        refine tr_V.goto (tgt := 66) dX5_barredNextTo_55 (by decide) ?_
        exact tr_V.iret dX5_barredNextTo_66 rfl (fun h => h)
      · refine tr_V.iconst (v := (1 : Int32)) dX5_barredNextTo_58 (by decide) ?_
        refine tr_V.aload_n (i := 0) dX5_barredNextTo_59 rfl rfl ?_
        refine tr_V.getR (Nat.succ_pos _) fl_X5_39 (shW ho) rfl dX5_barredNextTo_60 ?_
        refine tr_V.iload_n (i := 1) dX5_barredNextTo_63 rfl rfl ?_
        refine tr_V.bd (fun a7 h8 => ?_)
        refine tr_V.iald h8 (shW_16 ho) dX5_barredNextTo_64 ?_
        refine tr_V.ishl dX5_barredNextTo_65 ?_
        exact tr_V.iret dX5_barredNextTo_66 rfl (fun h => h)
    · refine tr_V.case (k := (5 : Int32)) (fun c18 => ?_) (fun c18 => ?_)
      · refine tr_V.lookup (tgt := 67) (off := 51) dX5_barredNextTo_16 (by decide) (by rw [c18]; decide) (by decide) ?_
        refine tr_V.iload_n (i := 2) dX5_barredNextTo_67 rfl rfl ?_
        refine tr_V.aload_n (i := 0) dX5_barredNextTo_68 rfl rfl ?_
        refine tr_V.getR (Nat.succ_pos _) fl_X5_36 (shW ho) rfl dX5_barredNextTo_69 ?_
        refine tr_V.iload_n (i := 1) dX5_barredNextTo_72 rfl rfl ?_
        refine tr_V.bd (fun a10 h11 => ?_)
        refine tr_V.iald h11 (shW_15 ho) dX5_barredNextTo_73 ?_
        refine tr_V.icmp_ne (tgt := 88) dX5_barredNextTo_74 (by decide) ?_ ?_
        · refine tr_V.iconst (v := (1 : Int32)) dX5_barredNextTo_77 (by decide) ?_
          refine tr_V.aload_n (i := 0) dX5_barredNextTo_78 rfl rfl ?_
          refine tr_V.getR (Nat.succ_pos _) fl_X5_39 (shW ho) rfl dX5_barredNextTo_79 ?_
          refine tr_V.iload_n (i := 1) dX5_barredNextTo_82 rfl rfl ?_
          refine tr_V.bd (fun a12 h13 => ?_)
          refine tr_V.iald h13 (shW_16 ho) dX5_barredNextTo_83 ?_
          refine tr_V.ishl dX5_barredNextTo_84 ?_
          refine tr_V.goto (tgt := 110) dX5_barredNextTo_85 (by decide) ?_
          exact tr_V.iret dX5_barredNextTo_110 rfl (fun h => h)
        · refine tr_V.iload_n (i := 2) dX5_barredNextTo_88 rfl rfl ?_
          refine tr_V.aload_n (i := 0) dX5_barredNextTo_89 rfl rfl ?_
          refine tr_V.getR (Nat.succ_pos _) fl_X5_39 (shW ho) rfl dX5_barredNextTo_90 ?_
          refine tr_V.iload_n (i := 1) dX5_barredNextTo_93 rfl rfl ?_
          refine tr_V.bd (fun a14 h15 => ?_)
          refine tr_V.iald h15 (shW_16 ho) dX5_barredNextTo_94 ?_
          refine tr_V.icmp_ne (tgt := 109) dX5_barredNextTo_95 (by decide) ?_ ?_
          · refine tr_V.iconst (v := (1 : Int32)) dX5_barredNextTo_98 (by decide) ?_
            refine tr_V.aload_n (i := 0) dX5_barredNextTo_99 rfl rfl ?_
            refine tr_V.getR (Nat.succ_pos _) fl_X5_36 (shW ho) rfl dX5_barredNextTo_100 ?_
            refine tr_V.iload_n (i := 1) dX5_barredNextTo_103 rfl rfl ?_
            refine tr_V.bd (fun a16 h17 => ?_)
            refine tr_V.iald h17 (shW_15 ho) dX5_barredNextTo_104 ?_
            refine tr_V.ishl dX5_barredNextTo_105 ?_
            refine tr_V.goto (tgt := 110) dX5_barredNextTo_106 (by decide) ?_
            exact tr_V.iret dX5_barredNextTo_110 rfl (fun h => h)
          · refine tr_V.iconst (v := (0 : Int32)) dX5_barredNextTo_109 (by decide) ?_
            exact tr_V.iret dX5_barredNextTo_110 rfl (fun h => h)
      · refine tr_V.lookup (tgt := 111) (off := 95) dX5_barredNextTo_16 (by decide) (by show Op.lookupswitch.offset [(2, 28), (5, 51)] 95 _ = _; rw [lv_osw c9 (by decide), lv_osw c18 (by decide)]; rfl) (by decide) ?_
        refine tr_V.iconst (v := (0 : Int32)) dX5_barredNextTo_111 (by decide) ?_
        exact tr_V.iret dX5_barredNextTo_112 rfl (fun h => h)
  · refine tr_V.iconst (v := (0 : Int32)) dX5_barredNextTo_8 (by decide) ?_
    exact tr_V.iret dX5_barredNextTo_9 rfl (fun h => h)
abbrev xX4_fillFitting : tr_X := (cX4_fillFitting, 4, RX4, (Option.none : Option Jvm.ClassFile.FieldType), 3, shC, 81)
theorem cw_X4_fillFitting : Cond.code yX4_fillFitting cX4_fillFitting 4 (Option.none : Option Jvm.ClassFile.FieldType) ∈ tr_tbl := tr_in 693 (by decide +kernel) rfl
theorem yk_X4_fillFitting : tr_yk yX4_fillFitting (xX4_fillFitting) 0 := ⟨cw_X4_fillFitting, in_X4, ⟨by decide +kernel, by decide +kernel, by decide +kernel⟩, Nat.le_of_ble_eq_true rfl⟩
theorem iv_X4_fillFitting : Cond.instanceMethod yX4_fillFitting ∈ tr_tbl ∧ Cond.selects (yX4_fillFitting).cls yX4_fillFitting yX4_fillFitting ∈ tr_tbl := ⟨tr_in 692 (by decide +kernel) rfl, tr_in 18 (by decide +kernel) rfl⟩
def mX4_fillFitting_l23 (s2 : Int32 × tr_M) (s8 : Int32 × Int32) : Option ((Int32 × Int32) ⊕ (Int32)) :=
  if s8.2 < (s2.2.1 26 1) then (
    Option.bind (mX5_barredBehind 26 s8.2 s2.1 s2.2) (fun c9 =>
    some (.inl ((s8.1 ||| c9), (s8.2 + (1 : Int32))))
    )
  ) else (
    some (.inr s8.1)
  )
def mX4_fillFitting_l2  (s2 : Int32 × tr_M) : Option ((Int32 × tr_M) ⊕ (tr_M)) :=
  if (mX5_everything 26 s2.2) < s2.1 then (
    some (.inr s2.2)
  ) else (
    Option.bind (mX4_pinnedOut s2.1 s2.2) (fun c5 =>
    Option.bind (show Option (Int32) from
      tr_loop (mX4_fillFitting_l23 s2) ((s2.1 ||| c5), (0 : Int32))
    ) (fun (v7 : Int32) =>
      Option.bind (tr_wr 1024 s2.2 46 s2.1 ((mX5_everything 26 s2.2) &&& (v7 ^^^ (-1 : Int32)))) (fun M13 =>
      some (.inl ((s2.1 + (1 : Int32)), M13))
      )
    )
    )
  )
def mX4_fillFitting_l87 (s15 : Int32 × tr_M) (s17 : Int32 × Int32) : Option ((Int32 × Int32) ⊕ (Int32)) :=
  if s17.2 < (s15.2.1 26 1) then (
    Option.bind (mX5_barredNextTo 26 s17.2 s15.1 s15.2) (fun c18 =>
    some (.inl ((s17.1 ||| c18), (s17.2 + (1 : Int32))))
    )
  ) else (
    some (.inr s17.1)
  )
def mX4_fillFitting_l77  (s15 : Int32 × tr_M) : Option ((Int32 × tr_M) ⊕ (tr_M)) :=
  if (10 : Int32) < s15.1 then (
    some (.inr s15.2)
  ) else (
    Option.bind (show Option (Int32) from
      tr_loop (mX4_fillFitting_l87 s15) ((0 : Int32), (0 : Int32))
    ) (fun (v16 : Int32) =>
      Option.bind (tr_wr 11 s15.2 47 s15.1 (v16 ^^^ (-1 : Int32))) (fun M20 =>
      some (.inl ((s15.1 + (1 : Int32)), M20))
      )
    )
  )
def mX4_fillFitting  (M : tr_M) : Option (tr_M) :=
  Option.bind (show Option (tr_M) from
    tr_loop (mX4_fillFitting_l2) ((0 : Int32), M)
  ) (fun (v1 : tr_M) =>
    tr_loop (mX4_fillFitting_l77) ((0 : Int32), v1)
  )
set_option maxRecDepth 100000 in
set_option maxHeartbeats 4000000 in
theorem C_X4_fillFitting  (M M' : tr_M) (h : mX4_fillFitting M = some M') : tr_I yX4_fillFitting (xX4_fillFitting) [.ref 25] M none M' := by
  refine tr_I.of (Z := fun q : tr_M => (none : Option Value) = none ∧ M' = q) pn_X4 rfl gdC (Nat.le_of_ble_eq_true rfl) (fun Wt => ?_) h ⟨rfl, rfl⟩
  unfold mX4_fillFitting
  refine tr_V.iconst (v := (0 : Int32)) dX4_fillFitting_0 (by decide) ?_
  refine tr_V.istore_n (i := 1) dX4_fillFitting_1 rfl (Nat.le_of_ble_eq_true rfl) rfl ?_
  refine tr_V.seq (τ := tr_M) (pc' := 75) (L := fun v1 => [(0, some (.ref 25))]) (S := fun v1 => []) (Mf := fun v1 => v1) ?_ ?_
  · refine tr_V.loop (σ := Int32 × tr_M) (step := mX4_fillFitting_l2) (L := fun s2 => [(0, some (.ref 25)), (1, some (.int s2.1))]) (Mf := fun s2 => s2.2) ?_ ((0 : Int32), M) ⟨rfl, rfl, trivial⟩
    intro s2
    refine tr_V.iload_n (i := 1) dX4_fillFitting_2 rfl rfl ?_
    refine tr_V.aload_n (i := 0) dX4_fillFitting_3 rfl rfl ?_
    refine tr_V.getR (Nat.succ_pos _) fl_X4_12 shC_25 rfl dX4_fillFitting_4 ?_
    refine tr_V.callV (C_X5_everything 26 isW_26 s2.2) yk_X5_everything iv_X5_everything ml_X4_77 shC_26 rfl ⟨rfl, Nat.le_of_ble_eq_true rfl⟩ rfl (Nat.le_of_ble_eq_true rfl) rfl dX4_fillFitting_7 ?_
    refine tr_V.icmp_gt (tgt := 75) dX4_fillFitting_10 (by decide) ?_ ?_
    · exact tr_V.to (fun h => h) ⟨rfl, trivial⟩
    · refine tr_V.iload_n (i := 1) dX4_fillFitting_13 rfl rfl ?_
      refine tr_V.aload_n (i := 0) dX4_fillFitting_14 rfl rfl ?_
      refine tr_V.iload_n (i := 1) dX4_fillFitting_15 rfl rfl ?_
      refine tr_V.bd (fun c5 h6 => ?_)
      refine tr_V.callV (C_X4_pinnedOut s2.1 s2.2 _ h6) yk_X4_pinnedOut iv_X4_pinnedOut ml_X4_110 shC_25 rfl ⟨rfl, Nat.le_of_ble_eq_true rfl⟩ rfl (Nat.le_of_ble_eq_true rfl) rfl dX4_fillFitting_16 ?_
      refine tr_V.ior dX4_fillFitting_19 ?_
      refine tr_V.istore_n (i := 2) dX4_fillFitting_20 rfl (Nat.le_of_ble_eq_true rfl) rfl ?_
      refine tr_V.iconst (v := (0 : Int32)) dX4_fillFitting_21 (by decide) ?_
      refine tr_V.istore_n (i := 3) dX4_fillFitting_22 rfl (Nat.le_of_ble_eq_true rfl) rfl ?_
      refine tr_V.seq (τ := Int32) (pc' := 52) (L := fun v7 => [(0, some (.ref 25)), (1, some (.int s2.1)), (2, some (.int v7))]) (S := fun v7 => []) (Mf := fun v7 => s2.2) ?_ ?_
      · refine tr_V.loop (σ := Int32 × Int32) (step := mX4_fillFitting_l23 s2) (L := fun s8 => [(0, some (.ref 25)), (1, some (.int s2.1)), (2, some (.int s8.1)), (3, some (.int s8.2))]) (Mf := fun s8 => s2.2) ?_ ((s2.1 ||| c5), (0 : Int32)) ⟨rfl, rfl, rfl, rfl, trivial⟩
        intro s8
        refine tr_V.iload_n (i := 3) dX4_fillFitting_23 rfl rfl ?_
        refine tr_V.aload_n (i := 0) dX4_fillFitting_24 rfl rfl ?_
        refine tr_V.getR (Nat.succ_pos _) fl_X4_12 shC_25 rfl dX4_fillFitting_25 ?_
        refine tr_V.getI fl_X4_113 shC_26 rfl dX4_fillFitting_28 ?_
        refine tr_V.icmp_ge (tgt := 52) dX4_fillFitting_31 (by decide) ?_ ?_
        · refine tr_V.iload_n (i := 2) dX4_fillFitting_34 rfl rfl ?_
          refine tr_V.aload_n (i := 0) dX4_fillFitting_35 rfl rfl ?_
          refine tr_V.getR (Nat.succ_pos _) fl_X4_12 shC_25 rfl dX4_fillFitting_36 ?_
          refine tr_V.iload_n (i := 3) dX4_fillFitting_39 rfl rfl ?_
          refine tr_V.iload_n (i := 1) dX4_fillFitting_40 rfl rfl ?_
          refine tr_V.bd (fun c9 h10 => ?_)
          refine tr_V.callV (C_X5_barredBehind 26 isW_26 s8.2 s2.1 s2.2 _ h10) yk_X5_barredBehind iv_X5_barredBehind ml_X4_116 shC_26 rfl ⟨rfl, Nat.le_of_ble_eq_true rfl⟩ rfl (Nat.le_of_ble_eq_true rfl) rfl dX4_fillFitting_41 ?_
          refine tr_V.ior dX4_fillFitting_44 ?_
          refine tr_V.istore_n (i := 2) dX4_fillFitting_45 rfl (Nat.le_of_ble_eq_true rfl) rfl ?_
          refine tr_V.iinc (cst := (1 : Int32)) dX4_fillFitting_46 rfl (by decide) rfl ?_
          refine tr_V.goto (tgt := 23) dX4_fillFitting_49 (by decide) ?_
          exact tr_V.to (fun h => h) ⟨rfl, rfl, rfl, rfl, trivial⟩
        · exact tr_V.to (fun h => h) ⟨rfl, rfl, rfl, trivial⟩
      · intro v7
        refine tr_V.aload_n (i := 0) dX4_fillFitting_52 rfl rfl ?_
        refine tr_V.getR (Nat.succ_pos _) fl_X4_22 shC_25 rfl dX4_fillFitting_53 ?_
        refine tr_V.iload_n (i := 1) dX4_fillFitting_56 rfl rfl ?_
        refine tr_V.aload_n (i := 0) dX4_fillFitting_57 rfl rfl ?_
        refine tr_V.getR (Nat.succ_pos _) fl_X4_12 shC_25 rfl dX4_fillFitting_58 ?_
        refine tr_V.callV (C_X5_everything 26 isW_26 s2.2) yk_X5_everything iv_X5_everything ml_X4_77 shC_26 rfl ⟨rfl, Nat.le_of_ble_eq_true rfl⟩ rfl (Nat.le_of_ble_eq_true rfl) rfl dX4_fillFitting_61 ?_
        refine tr_V.iload_n (i := 2) dX4_fillFitting_64 rfl rfl ?_
        refine tr_V.iconst (v := (-1 : Int32)) dX4_fillFitting_65 (by decide) ?_
        refine tr_V.ixor dX4_fillFitting_66 ?_
        refine tr_V.iand dX4_fillFitting_67 ?_
        refine tr_V.bd (fun M13 h14 => ?_)
        refine tr_V.iast h14 shC_46 dX4_fillFitting_68 ?_
        refine tr_V.iinc (cst := (1 : Int32)) dX4_fillFitting_69 rfl (by decide) rfl ?_
        refine tr_V.goto (tgt := 2) dX4_fillFitting_72 (by decide) ?_
        exact tr_V.to (fun h => h) ⟨rfl, rfl, trivial⟩
  · intro v1
    refine tr_V.iconst (v := (0 : Int32)) dX4_fillFitting_75 (by decide) ?_
    refine tr_V.istore_n (i := 1) dX4_fillFitting_76 rfl (Nat.le_of_ble_eq_true rfl) rfl ?_
    refine tr_V.loop (σ := Int32 × tr_M) (step := mX4_fillFitting_l77) (L := fun s15 => [(0, some (.ref 25)), (1, some (.int s15.1))]) (Mf := fun s15 => s15.2) ?_ ((0 : Int32), v1) ⟨rfl, rfl, trivial⟩
    intro s15
    refine tr_V.iload_n (i := 1) dX4_fillFitting_77 rfl rfl ?_
    refine tr_V.bipush (v := (10 : Int32)) dX4_fillFitting_78 (by decide) ?_
    refine tr_V.icmp_gt (tgt := 131) dX4_fillFitting_80 (by decide) ?_ ?_
    · exact tr_V.vret dX4_fillFitting_131 rfl (fun h => h)
    · refine tr_V.iconst (v := (0 : Int32)) dX4_fillFitting_83 (by decide) ?_
      refine tr_V.istore_n (i := 2) dX4_fillFitting_84 rfl (Nat.le_of_ble_eq_true rfl) rfl ?_
      refine tr_V.iconst (v := (0 : Int32)) dX4_fillFitting_85 (by decide) ?_
      refine tr_V.istore_n (i := 3) dX4_fillFitting_86 rfl (Nat.le_of_ble_eq_true rfl) rfl ?_
      refine tr_V.seq (τ := Int32) (pc' := 116) (L := fun v16 => [(0, some (.ref 25)), (1, some (.int s15.1)), (2, some (.int v16))]) (S := fun v16 => []) (Mf := fun v16 => s15.2) ?_ ?_
      · refine tr_V.loop (σ := Int32 × Int32) (step := mX4_fillFitting_l87 s15) (L := fun s17 => [(0, some (.ref 25)), (1, some (.int s15.1)), (2, some (.int s17.1)), (3, some (.int s17.2))]) (Mf := fun s17 => s15.2) ?_ ((0 : Int32), (0 : Int32)) ⟨rfl, rfl, rfl, rfl, trivial⟩
        intro s17
        refine tr_V.iload_n (i := 3) dX4_fillFitting_87 rfl rfl ?_
        refine tr_V.aload_n (i := 0) dX4_fillFitting_88 rfl rfl ?_
        refine tr_V.getR (Nat.succ_pos _) fl_X4_12 shC_25 rfl dX4_fillFitting_89 ?_
        refine tr_V.getI fl_X4_113 shC_26 rfl dX4_fillFitting_92 ?_
        refine tr_V.icmp_ge (tgt := 116) dX4_fillFitting_95 (by decide) ?_ ?_
        · refine tr_V.iload_n (i := 2) dX4_fillFitting_98 rfl rfl ?_
          refine tr_V.aload_n (i := 0) dX4_fillFitting_99 rfl rfl ?_
          refine tr_V.getR (Nat.succ_pos _) fl_X4_12 shC_25 rfl dX4_fillFitting_100 ?_
          refine tr_V.iload_n (i := 3) dX4_fillFitting_103 rfl rfl ?_
          refine tr_V.iload_n (i := 1) dX4_fillFitting_104 rfl rfl ?_
          refine tr_V.bd (fun c18 h19 => ?_)
          refine tr_V.callV (C_X5_barredNextTo 26 isW_26 s17.2 s15.1 s15.2 _ h19) yk_X5_barredNextTo iv_X5_barredNextTo ml_X4_119 shC_26 rfl ⟨rfl, Nat.le_of_ble_eq_true rfl⟩ rfl (Nat.le_of_ble_eq_true rfl) rfl dX4_fillFitting_105 ?_
          refine tr_V.ior dX4_fillFitting_108 ?_
          refine tr_V.istore_n (i := 2) dX4_fillFitting_109 rfl (Nat.le_of_ble_eq_true rfl) rfl ?_
          refine tr_V.iinc (cst := (1 : Int32)) dX4_fillFitting_110 rfl (by decide) rfl ?_
          refine tr_V.goto (tgt := 87) dX4_fillFitting_113 (by decide) ?_
          exact tr_V.to (fun h => h) ⟨rfl, rfl, rfl, rfl, trivial⟩
        · exact tr_V.to (fun h => h) ⟨rfl, rfl, rfl, trivial⟩
      · intro v16
        refine tr_V.aload_n (i := 0) dX4_fillFitting_116 rfl rfl ?_
        refine tr_V.getR (Nat.succ_pos _) fl_X4_25 shC_25 rfl dX4_fillFitting_117 ?_
        refine tr_V.iload_n (i := 1) dX4_fillFitting_120 rfl rfl ?_
        refine tr_V.iload_n (i := 2) dX4_fillFitting_121 rfl rfl ?_
        refine tr_V.iconst (v := (-1 : Int32)) dX4_fillFitting_122 (by decide) ?_
        refine tr_V.ixor dX4_fillFitting_123 ?_
        refine tr_V.bd (fun M20 h21 => ?_)
        refine tr_V.iast h21 shC_47 dX4_fillFitting_124 ?_
        refine tr_V.iinc (cst := (1 : Int32)) dX4_fillFitting_125 rfl (by decide) rfl ?_
        refine tr_V.goto (tgt := 77) dX4_fillFitting_128 (by decide) ?_
        exact tr_V.to (fun h => h) ⟨rfl, rfl, trivial⟩
abbrev xX4_fillGapCosts : tr_X := (cX4_fillGapCosts, 5, RX4, (Option.none : Option Jvm.ClassFile.FieldType), 2, shC, 81)
theorem cw_X4_fillGapCosts : Cond.code yX4_fillGapCosts cX4_fillGapCosts 5 (Option.none : Option Jvm.ClassFile.FieldType) ∈ tr_tbl := tr_in 721 (by decide +kernel) rfl
theorem yk_X4_fillGapCosts : tr_yk yX4_fillGapCosts (xX4_fillGapCosts) 1 := ⟨cw_X4_fillGapCosts, in_X4, ⟨by decide +kernel, by decide +kernel, by decide +kernel⟩, Nat.le_of_ble_eq_true rfl⟩
theorem iv_X4_fillGapCosts : Cond.instanceMethod yX4_fillGapCosts ∈ tr_tbl ∧ Cond.selects (yX4_fillGapCosts).cls yX4_fillGapCosts yX4_fillGapCosts ∈ tr_tbl := ⟨tr_in 720 (by decide +kernel) rfl, tr_in 21 (by decide +kernel) rfl⟩
def mX4_fillGapCosts_l9 (p1 : Int32) (s3 : Int32 × tr_M) : Option ((Int32 × tr_M) ⊕ (tr_M)) :=
  if (mX5_everything 26 s3.2) < s3.1 then (
    some (.inr s3.2)
  ) else (
    if p1 = (5 : Int32) then (
      Option.bind (tr_wr 1024 s3.2 45 s3.1 (0 : Int32)) (fun M6 =>
      some (.inl ((s3.1 + (1 : Int32)), M6))
      )
    ) else (
      Option.bind (show Option ((Int32 × tr_M) ⊕ ((Int32 × tr_M) ⊕ (tr_M))) from
        if p1 = (2 : Int32) then (
          some (.inl (s3.1, s3.2))
        ) else (
          if p1 = (3 : Int32) then (
            some (.inl (s3.1, s3.2))
          ) else (
            Option.bind (mJ6_bitCount_0f7a4 ((s3.1 ^^^ (s3.1 &&& (s3.1 - (1 : Int32)))) - (1 : Int32))) (fun c9 =>
            Option.bind (tr_rd 1024 s3.2 45 (s3.1 &&& (s3.1 - (1 : Int32)))) (fun a11 =>
            Option.bind (mX5_weightAdded 26 c9 (s3.1 &&& (s3.1 - (1 : Int32))) s3.2) (fun c13 =>
            Option.bind (tr_wr 1024 s3.2 45 s3.1 (a11 + c13)) (fun M15 =>
            some (.inr (.inl ((s3.1 + (1 : Int32)), M15)))
            )
            )
            )
            )
          )
        )
      ) (tr_el (fun (v8 : Int32 × tr_M) =>
        Option.bind (mX5_heldBy 26 v8.1 v8.2) (fun c17 =>
        Option.bind (tr_wr 1024 v8.2 45 v8.1 c17) (fun M19 =>
        some (.inl ((v8.1 + (1 : Int32)), M19))
        )
        )
      ))
    )
  )
def mX4_fillGapCosts (p1 : Int32) (M : tr_M) : Option (tr_M) :=
  Option.bind (tr_wr 1024 M 45 (0 : Int32) (0 : Int32)) (fun M1 =>
  tr_loop (mX4_fillGapCosts_l9 p1) ((1 : Int32), M1)
  )
set_option maxRecDepth 100000 in
set_option maxHeartbeats 4000000 in
theorem C_X4_fillGapCosts (p1 : Int32) (M M' : tr_M) (h : mX4_fillGapCosts p1 M = some M') : tr_I yX4_fillGapCosts (xX4_fillGapCosts) [.ref 25, .int p1] M none M' := by
  refine tr_I.of (Z := fun q : tr_M => (none : Option Value) = none ∧ M' = q) pn_X4 rfl gdC (Nat.le_of_ble_eq_true rfl) (fun Wt => ?_) h ⟨rfl, rfl⟩
  unfold mX4_fillGapCosts
  refine tr_V.aload_n (i := 0) dX4_fillGapCosts_0 rfl rfl ?_
  refine tr_V.getR (Nat.succ_pos _) fl_X4_18 shC_25 rfl dX4_fillGapCosts_1 ?_
  refine tr_V.iconst (v := (0 : Int32)) dX4_fillGapCosts_4 (by decide) ?_
  refine tr_V.iconst (v := (0 : Int32)) dX4_fillGapCosts_5 (by decide) ?_
  refine tr_V.bd (fun M1 h2 => ?_)
  refine tr_V.iast h2 shC_45 dX4_fillGapCosts_6 ?_
  refine tr_V.iconst (v := (1 : Int32)) dX4_fillGapCosts_7 (by decide) ?_
  refine tr_V.istore_n (i := 2) dX4_fillGapCosts_8 rfl (Nat.le_of_ble_eq_true rfl) rfl ?_
  refine tr_V.loop (σ := Int32 × tr_M) (step := mX4_fillGapCosts_l9 p1) (L := fun s3 => [(0, some (.ref 25)), (1, some (.int p1)), (2, some (.int s3.1))]) (Mf := fun s3 => s3.2) ?_ ((1 : Int32), M1) ⟨rfl, rfl, rfl, trivial⟩
  intro s3
  refine tr_V.iload_n (i := 2) dX4_fillGapCosts_9 rfl rfl ?_
  refine tr_V.aload_n (i := 0) dX4_fillGapCosts_10 rfl rfl ?_
  refine tr_V.getR (Nat.succ_pos _) fl_X4_12 shC_25 rfl dX4_fillGapCosts_11 ?_
  refine tr_V.callV (C_X5_everything 26 isW_26 s3.2) yk_X5_everything iv_X5_everything ml_X4_77 shC_26 rfl ⟨rfl, Nat.le_of_ble_eq_true rfl⟩ rfl (Nat.le_of_ble_eq_true rfl) rfl dX4_fillGapCosts_14 ?_
  refine tr_V.icmp_gt (tgt := 107) dX4_fillGapCosts_17 (by decide) ?_ ?_
  · exact tr_V.vret dX4_fillGapCosts_107 rfl (fun h => h)
  · refine tr_V.iload_n (i := 1) dX4_fillGapCosts_20 rfl rfl ?_
    refine tr_V.iconst (v := (5 : Int32)) dX4_fillGapCosts_21 (by decide) ?_
    refine tr_V.icmp_ne (tgt := 35) dX4_fillGapCosts_22 (by decide) ?_ ?_
    · refine tr_V.aload_n (i := 0) dX4_fillGapCosts_25 rfl rfl ?_
      refine tr_V.getR (Nat.succ_pos _) fl_X4_18 shC_25 rfl dX4_fillGapCosts_26 ?_
      refine tr_V.iload_n (i := 2) dX4_fillGapCosts_29 rfl rfl ?_
      refine tr_V.iconst (v := (0 : Int32)) dX4_fillGapCosts_30 (by decide) ?_
      refine tr_V.bd (fun M6 h7 => ?_)
      refine tr_V.iast h7 shC_45 dX4_fillGapCosts_31 ?_
      refine tr_V.goto (tgt := 101) dX4_fillGapCosts_32 (by decide) ?_
      refine tr_V.iinc (cst := (1 : Int32)) dX4_fillGapCosts_101 rfl (by decide) rfl ?_
      refine tr_V.goto (tgt := 9) dX4_fillGapCosts_104 (by decide) ?_
      exact tr_V.to (fun h => h) ⟨rfl, rfl, rfl, trivial⟩
    · refine tr_V.iload_n (i := 1) dX4_fillGapCosts_35 rfl rfl ?_
      refine tr_V.iconst (v := (2 : Int32)) dX4_fillGapCosts_36 (by decide) ?_
      refine tr_V.seqE (τ := Int32 × tr_M) (pc' := 45) (L := fun v8 => [(0, some (.ref 25)), (1, some (.int p1)), (2, some (.int v8.1))]) (S := fun v8 => []) (Mf := fun v8 => v8.2) ?_ ?_
      · refine tr_V.icmp_eq (tgt := 45) dX4_fillGapCosts_37 (by decide) ?_ ?_
        · exact tr_V.to (fun h => h) ⟨rfl, rfl, rfl, trivial⟩
        · refine tr_V.iload_n (i := 1) dX4_fillGapCosts_40 rfl rfl ?_
          refine tr_V.iconst (v := (3 : Int32)) dX4_fillGapCosts_41 (by decide) ?_
          refine tr_V.icmp_ne (tgt := 62) dX4_fillGapCosts_42 (by decide) ?_ ?_
          · exact tr_V.to (fun h => h) ⟨rfl, rfl, rfl, trivial⟩
          · refine tr_V.iload_n (i := 2) dX4_fillGapCosts_62 rfl rfl ?_
            refine tr_V.iload_n (i := 2) dX4_fillGapCosts_63 rfl rfl ?_
            refine tr_V.iconst (v := (1 : Int32)) dX4_fillGapCosts_64 (by decide) ?_
            refine tr_V.isub dX4_fillGapCosts_65 ?_
            refine tr_V.iand dX4_fillGapCosts_66 ?_
            refine tr_V.istore_n (i := 3) dX4_fillGapCosts_67 rfl (Nat.le_of_ble_eq_true rfl) rfl ?_
            refine tr_V.iload_n (i := 2) dX4_fillGapCosts_68 rfl rfl ?_
            refine tr_V.iload_n (i := 3) dX4_fillGapCosts_69 rfl rfl ?_
            refine tr_V.ixor dX4_fillGapCosts_70 ?_
            refine tr_V.iconst (v := (1 : Int32)) dX4_fillGapCosts_71 (by decide) ?_
            refine tr_V.isub dX4_fillGapCosts_72 ?_
            refine tr_V.bd (fun c9 h10 => ?_)
            refine tr_V.callS (C_J6_bitCount_0f7a4 shC 81 gdC ((s3.1 ^^^ (s3.1 &&& (s3.1 - (1 : Int32)))) - (1 : Int32)) s3.2 _ h10) yk_J6_bitCount_0f7a4 sc_J6_bitCount_0f7a4 ml_X4_99 ⟨rfl, Nat.le_of_ble_eq_true rfl⟩ rfl (Nat.le_of_ble_eq_true rfl) rfl dX4_fillGapCosts_73 ?_
            refine tr_V.istore (i := 4) dX4_fillGapCosts_76 (Nat.le_of_ble_eq_true rfl) rfl ?_
            refine tr_V.aload_n (i := 0) dX4_fillGapCosts_78 rfl rfl ?_
            refine tr_V.getR (Nat.succ_pos _) fl_X4_18 shC_25 rfl dX4_fillGapCosts_79 ?_
            refine tr_V.iload_n (i := 2) dX4_fillGapCosts_82 rfl rfl ?_
            refine tr_V.aload_n (i := 0) dX4_fillGapCosts_83 rfl rfl ?_
            refine tr_V.getR (Nat.succ_pos _) fl_X4_18 shC_25 rfl dX4_fillGapCosts_84 ?_
            refine tr_V.iload_n (i := 3) dX4_fillGapCosts_87 rfl rfl ?_
            refine tr_V.bd (fun a11 h12 => ?_)
            refine tr_V.iald h12 shC_45 dX4_fillGapCosts_88 ?_
            refine tr_V.aload_n (i := 0) dX4_fillGapCosts_89 rfl rfl ?_
            refine tr_V.getR (Nat.succ_pos _) fl_X4_12 shC_25 rfl dX4_fillGapCosts_90 ?_
            refine tr_V.iload dX4_fillGapCosts_93 rfl ?_
            refine tr_V.iload_n (i := 3) dX4_fillGapCosts_95 rfl rfl ?_
            refine tr_V.bd (fun c13 h14 => ?_)
            refine tr_V.callV (C_X5_weightAdded 26 isW_26 c9 (s3.1 &&& (s3.1 - (1 : Int32))) s3.2 _ h14) yk_X5_weightAdded iv_X5_weightAdded ml_X4_107 shC_26 rfl ⟨rfl, Nat.le_of_ble_eq_true rfl⟩ rfl (Nat.le_of_ble_eq_true rfl) rfl dX4_fillGapCosts_96 ?_
            refine tr_V.iadd dX4_fillGapCosts_99 ?_
            refine tr_V.bd (fun M15 h16 => ?_)
            refine tr_V.iast h16 shC_45 dX4_fillGapCosts_100 ?_
            refine tr_V.iinc (cst := (1 : Int32)) dX4_fillGapCosts_101 rfl (by decide) rfl ?_
            refine tr_V.goto (tgt := 9) dX4_fillGapCosts_104 (by decide) ?_
            exact tr_V.to (fun h => h) ⟨rfl, rfl, rfl, trivial⟩
      · intro v8
        refine tr_V.aload_n (i := 0) dX4_fillGapCosts_45 rfl rfl ?_
        refine tr_V.getR (Nat.succ_pos _) fl_X4_18 shC_25 rfl dX4_fillGapCosts_46 ?_
        refine tr_V.iload_n (i := 2) dX4_fillGapCosts_49 rfl rfl ?_
        refine tr_V.aload_n (i := 0) dX4_fillGapCosts_50 rfl rfl ?_
        refine tr_V.getR (Nat.succ_pos _) fl_X4_12 shC_25 rfl dX4_fillGapCosts_51 ?_
        refine tr_V.iload_n (i := 2) dX4_fillGapCosts_54 rfl rfl ?_
        refine tr_V.bd (fun c17 h18 => ?_)
        refine tr_V.callV (C_X5_heldBy 26 isW_26 v8.1 v8.2 _ h18) yk_X5_heldBy iv_X5_heldBy ml_X4_104 shC_26 rfl ⟨rfl, Nat.le_of_ble_eq_true rfl⟩ rfl (Nat.le_of_ble_eq_true rfl) rfl dX4_fillGapCosts_55 ?_
        refine tr_V.bd (fun M19 h20 => ?_)
        refine tr_V.iast h20 shC_45 dX4_fillGapCosts_58 ?_
        refine tr_V.goto (tgt := 101) dX4_fillGapCosts_59 (by decide) ?_
        refine tr_V.iinc (cst := (1 : Int32)) dX4_fillGapCosts_101 rfl (by decide) rfl ?_
        refine tr_V.goto (tgt := 9) dX4_fillGapCosts_104 (by decide) ?_
        exact tr_V.to (fun h => h) ⟨rfl, rfl, rfl, trivial⟩
abbrev xX4_lastsOf : tr_X := (cX4_lastsOf, 2, RX4, (some .int), 1, shC, 81)
theorem cw_X4_lastsOf : Cond.code yX4_lastsOf cX4_lastsOf 2 (some .int) ∈ tr_tbl := tr_in 727 (by decide +kernel) rfl
theorem yk_X4_lastsOf : tr_yk yX4_lastsOf (xX4_lastsOf) 1 := ⟨cw_X4_lastsOf, in_X4, ⟨by decide +kernel, by decide +kernel, by decide +kernel⟩, Nat.le_of_ble_eq_true rfl⟩
theorem iv_X4_lastsOf : Cond.instanceMethod yX4_lastsOf ∈ tr_tbl ∧ Cond.selects (yX4_lastsOf).cls yX4_lastsOf yX4_lastsOf ∈ tr_tbl := ⟨tr_in 726 (by decide +kernel) rfl, tr_in 22 (by decide +kernel) rfl⟩
def mX4_lastsOf' (p1 : Int32) (M : tr_M) : Option Int32 :=
  if p1 = 0 then (
    some (1 : Int32)
  ) else (
    some (M.1 26 0)
  )
def mX4_lastsOf (p1 : Int32) (M : tr_M) : Int32 :=
  if p1 = 0 then (
    (1 : Int32)
  ) else (
    (M.1 26 0)
  )
theorem mX4_lastsOf_eq (p1 : Int32) (M : tr_M) : mX4_lastsOf' p1 M = some (mX4_lastsOf p1 M) := by
  unfold mX4_lastsOf' mX4_lastsOf
  repeat' split
  all_goals rfl
set_option maxRecDepth 100000 in
set_option maxHeartbeats 4000000 in
theorem C_X4_lastsOf (p1 : Int32) (M : tr_M) : tr_I yX4_lastsOf (xX4_lastsOf) [.ref 25, .int p1] M (some (.int (mX4_lastsOf p1 M))) M := by
  refine tr_I.of (Z := fun q : Int32 => (some (.int (mX4_lastsOf p1 M)) : Option Value) = some (.int q) ∧ M = M) pn_X4 rfl gdC (Nat.le_of_ble_eq_true rfl) (fun Wt => ?_) (mX4_lastsOf_eq p1 M) ⟨rfl, rfl⟩
  unfold mX4_lastsOf'
  refine tr_V.iload_n (i := 1) dX4_lastsOf_0 rfl rfl ?_
  refine tr_V.if_ne (tgt := 8) dX4_lastsOf_1 (by decide) ?_ ?_
  · refine tr_V.iconst (v := (1 : Int32)) dX4_lastsOf_4 (by decide) ?_
    refine tr_V.goto (tgt := 15) dX4_lastsOf_5 (by decide) ?_
    exact tr_V.iret dX4_lastsOf_15 rfl (fun h => h)
  · refine tr_V.aload_n (i := 0) dX4_lastsOf_8 rfl rfl ?_
    refine tr_V.getR (Nat.succ_pos _) fl_X4_12 shC_25 rfl dX4_lastsOf_9 ?_
    refine tr_V.getI fl_X4_96 shC_26 rfl dX4_lastsOf_12 ?_
    exact tr_V.iret dX4_lastsOf_15 rfl (fun h => h)
abbrev xX4_isState : tr_X := (cX4_isState, 2, RX4, (some .boolean), 1, shC, 81)
theorem cw_X4_isState : Cond.code yX4_isState cX4_isState 2 (some .boolean) ∈ tr_tbl := tr_in 730 (by decide +kernel) rfl
theorem yk_X4_isState : tr_yk yX4_isState (xX4_isState) 2 := ⟨cw_X4_isState, in_X4, ⟨by decide +kernel, by decide +kernel, by decide +kernel⟩, Nat.le_of_ble_eq_true rfl⟩
theorem sc_X4_isState : Cond.static yX4_isState ∈ tr_tbl := tr_in 729 (by decide +kernel) rfl
def mX4_isState' (p0 : Int32) (p1 : Int32) : Option Int32 :=
  if p0 = 0 then (
    some (1 : Int32)
  ) else (
    if ((p0 >>> (p1 &&& 31)) &&& (1 : Int32)) = 0 then (
      some (0 : Int32)
    ) else (
      some (1 : Int32)
    )
  )
def mX4_isState (p0 : Int32) (p1 : Int32) : Int32 :=
  if p0 = 0 then (
    (1 : Int32)
  ) else (
    if ((p0 >>> (p1 &&& 31)) &&& (1 : Int32)) = 0 then (
      (0 : Int32)
    ) else (
      (1 : Int32)
    )
  )
theorem mX4_isState_eq (p0 : Int32) (p1 : Int32) : mX4_isState' p0 p1 = some (mX4_isState p0 p1) := by
  unfold mX4_isState' mX4_isState
  repeat' split
  all_goals rfl
set_option maxRecDepth 100000 in
set_option maxHeartbeats 4000000 in
theorem C_X4_isState (p0 : Int32) (p1 : Int32) (M : tr_M) : tr_I yX4_isState (xX4_isState) [.int p0, .int p1] M (some (.int (mX4_isState p0 p1))) M := by
  refine tr_I.of (Z := fun q : Int32 => (some (.int (mX4_isState p0 p1)) : Option Value) = some (.int q) ∧ M = M) pn_X4 rfl gdC (Nat.le_of_ble_eq_true rfl) (fun Wt => ?_) (mX4_isState_eq p0 p1) ⟨rfl, rfl⟩
  unfold mX4_isState'
  refine tr_V.iload_n (i := 0) dX4_isState_0 rfl rfl ?_
  refine tr_V.if_eq (tgt := 12) dX4_isState_1 (by decide) ?_ ?_
  · refine tr_V.iconst (v := (1 : Int32)) dX4_isState_12 (by decide) ?_
    refine tr_V.goto (tgt := 17) dX4_isState_13 (by decide) ?_
    exact tr_V.zret (by decide) dX4_isState_17 rfl (fun h => h)
  · refine tr_V.iload_n (i := 0) dX4_isState_4 rfl rfl ?_
    refine tr_V.iload_n (i := 1) dX4_isState_5 rfl rfl ?_
    refine tr_V.ishr dX4_isState_6 ?_
    refine tr_V.iconst (v := (1 : Int32)) dX4_isState_7 (by decide) ?_
    refine tr_V.iand dX4_isState_8 ?_
    refine tr_V.if_eq (tgt := 16) dX4_isState_9 (by decide) ?_ ?_
    · refine tr_V.iconst (v := (0 : Int32)) dX4_isState_16 (by decide) ?_
      exact tr_V.zret (by decide) dX4_isState_17 rfl (fun h => h)
    · refine tr_V.iconst (v := (1 : Int32)) dX4_isState_12 (by decide) ?_
      refine tr_V.goto (tgt := 17) dX4_isState_13 (by decide) ?_
      exact tr_V.zret (by decide) dX4_isState_17 rfl (fun h => h)
abbrev xX4_nextOf : tr_X := (cX4_nextOf, 3, RX4, (some .int), 2, shC, 81)
theorem cw_X4_nextOf : Cond.code yX4_nextOf cX4_nextOf 3 (some .int) ∈ tr_tbl := tr_in 741 (by decide +kernel) rfl
theorem yk_X4_nextOf : tr_yk yX4_nextOf (xX4_nextOf) 2 := ⟨cw_X4_nextOf, in_X4, ⟨by decide +kernel, by decide +kernel, by decide +kernel⟩, Nat.le_of_ble_eq_true rfl⟩
theorem iv_X4_nextOf : Cond.instanceMethod yX4_nextOf ∈ tr_tbl ∧ Cond.selects (yX4_nextOf).cls yX4_nextOf yX4_nextOf ∈ tr_tbl := ⟨tr_in 740 (by decide +kernel) rfl, tr_in 24 (by decide +kernel) rfl⟩
def mX4_nextOf (p1 : Int32) (p2 : Int32) (M : tr_M) : Option (Int32) :=
  if (M.1 25 10) = 0 then (
    Option.bind (tr_rd 1024 M 46 p1) (fun a1 =>
    if p1 = 0 then (
      Option.bind (tr_rd 11 M 47 (10 : Int32)) (fun a3 =>
      some (a1 &&& a3)
      )
    ) else (
      Option.bind (tr_rd 11 M 47 p2) (fun a5 =>
      some (a1 &&& a5)
      )
    )
    )
  ) else (
    Option.bind (tr_rd 10240 M 49 (mX4_stateOf p1 p2)) (fun a9 =>
    some a9
    )
  )
set_option maxRecDepth 100000 in
set_option maxHeartbeats 4000000 in
theorem C_X4_nextOf (p1 : Int32) (p2 : Int32) (M : tr_M) (r : Int32) (h : mX4_nextOf p1 p2 M = some r) : tr_I yX4_nextOf (xX4_nextOf) [.ref 25, .int p1, .int p2] M (some (.int r)) M := by
  refine tr_I.of (Z := fun q : Int32 => (some (.int r) : Option Value) = some (.int q) ∧ M = M) pn_X4 rfl gdC (Nat.le_of_ble_eq_true rfl) (fun Wt => ?_) h ⟨rfl, rfl⟩
  unfold mX4_nextOf
  refine tr_V.aload_n (i := 0) dX4_nextOf_0 rfl rfl ?_
  refine tr_V.getZ fl_X4_46 shC_25 rfl dX4_nextOf_1 ?_
  refine tr_V.if_eq (tgt := 18) dX4_nextOf_4 (by decide) ?_ ?_
  · refine tr_V.aload_n (i := 0) dX4_nextOf_18 rfl rfl ?_
    refine tr_V.getR (Nat.succ_pos _) fl_X4_22 shC_25 rfl dX4_nextOf_19 ?_
    refine tr_V.iload_n (i := 1) dX4_nextOf_22 rfl rfl ?_
    refine tr_V.bd (fun a1 h2 => ?_)
    refine tr_V.iald h2 shC_46 dX4_nextOf_23 ?_
    refine tr_V.aload_n (i := 0) dX4_nextOf_24 rfl rfl ?_
    refine tr_V.getR (Nat.succ_pos _) fl_X4_25 shC_25 rfl dX4_nextOf_25 ?_
    refine tr_V.iload_n (i := 1) dX4_nextOf_28 rfl rfl ?_
    refine tr_V.if_ne (tgt := 37) dX4_nextOf_29 (by decide) ?_ ?_
    · refine tr_V.bipush (v := (10 : Int32)) dX4_nextOf_32 (by decide) ?_
      refine tr_V.goto (tgt := 38) dX4_nextOf_34 (by decide) ?_
      refine tr_V.bd (fun a3 h4 => ?_)
      refine tr_V.iald h4 shC_47 dX4_nextOf_38 ?_
      refine tr_V.iand dX4_nextOf_39 ?_
      exact tr_V.iret dX4_nextOf_40 rfl (fun h => h)
    · refine tr_V.iload_n (i := 2) dX4_nextOf_37 rfl rfl ?_
      refine tr_V.bd (fun a5 h6 => ?_)
      refine tr_V.iald h6 shC_47 dX4_nextOf_38 ?_
      refine tr_V.iand dX4_nextOf_39 ?_
      exact tr_V.iret dX4_nextOf_40 rfl (fun h => h)
  · refine tr_V.aload_n (i := 0) dX4_nextOf_7 rfl rfl ?_
    refine tr_V.getR (Nat.succ_pos _) fl_X4_31 shC_25 rfl dX4_nextOf_8 ?_
    refine tr_V.iload_n (i := 1) dX4_nextOf_11 rfl rfl ?_
    refine tr_V.iload_n (i := 2) dX4_nextOf_12 rfl rfl ?_
    refine tr_V.callS (C_X4_stateOf p1 p2 M) yk_X4_stateOf sc_X4_stateOf ml_X4_89 ⟨rfl, Nat.le_of_ble_eq_true rfl⟩ rfl (Nat.le_of_ble_eq_true rfl) rfl dX4_nextOf_13 ?_
    refine tr_V.bd (fun a9 h10 => ?_)
    refine tr_V.iald h10 shC_49 dX4_nextOf_16 ?_
    exact tr_V.iret dX4_nextOf_17 rfl (fun h => h)
