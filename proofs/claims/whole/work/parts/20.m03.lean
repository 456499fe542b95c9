abbrev xX5_take : tr_X := (cX5_take, 4, RX5, (Option.none : Option Jvm.ClassFile.FieldType), 3, shC, 81)
theorem cw_X5_take : Cond.code yX5_take cX5_take 4 (Option.none : Option Jvm.ClassFile.FieldType) ∈ tr_tbl := tr_in 535 (by decide +kernel) rfl
theorem yk_X5_take : tr_yk yX5_take (xX5_take) 1 := ⟨cw_X5_take, in_X5, ⟨by decide +kernel, by decide +kernel, by decide +kernel⟩, Nat.le_of_ble_eq_true rfl⟩
theorem iv_X5_take : Cond.instanceMethod yX5_take ∈ tr_tbl ∧ Cond.selects (yX5_take).cls yX5_take yX5_take ∈ tr_tbl := ⟨tr_in 533 (by decide +kernel) rfl, tr_in 534 (by decide +kernel) rfl⟩
def mX5_take_l22 (o : Nat) (p1 : Nat) (s4 : Int32 × tr_M) (s5 : Int32 × tr_M) : Option ((Int32 × tr_M) ⊕ ((Int32 × tr_M) ⊕ (tr_M))) :=
  if s5.1 < (s5.2.1 o 0) then (
    Option.bind (tr_ra 10 (fun i => p1 + 2 + i) s4.1) (fun r6 =>
    Option.bind (tr_rd 10 s5.2 r6 s5.1) (fun a8 =>
    Option.bind (mX5_setTie o s4.1 s5.1 a8 s5.2) (fun c10 =>
    some (.inl ((s5.1 + (1 : Int32)), c10))
    )
    )
    )
  ) else (
    some (.inr (.inl ((s4.1 + (1 : Int32)), s5.2)))
  )
def mX5_take_l10 (o : Nat) (p1 : Nat) (s4 : Int32 × tr_M) : Option ((Int32 × tr_M) ⊕ (tr_M)) :=
  if s4.1 < (s4.2.1 o 0) then (
    tr_loop (mX5_take_l22 o p1 s4) ((s4.1 + (1 : Int32)), s4.2)
  ) else (
    some (.inr s4.2)
  )
def mX5_take_l58 (o : Nat) (p1 : Nat) (s12 : Int32 × tr_M) : Option ((Int32 × tr_M) ⊕ (tr_M)) :=
  if s12.1 < (s12.2.1 p1 1) then (
    Option.bind (tr_rd 8 s12.2 (p1 + 14) s12.1) (fun a13 =>
    Option.bind (tr_rd 8 s12.2 (p1 + 15) s12.1) (fun a15 =>
    Option.bind (tr_rd 8 s12.2 (p1 + 16) s12.1) (fun a17 =>
    Option.bind (tr_rd 8 s12.2 (p1 + 17) s12.1) (fun a19 =>
    Option.bind (mX5_addRule o a13 a15 a17 a19 s12.2) (fun c21 =>
    some (.inl ((s12.1 + (1 : Int32)), c21.2))
    )
    )
    )
    )
    )
  ) else (
    some (.inr s12.2)
  )
def mX5_take (o : Nat) (p1 : Nat) (M : tr_M) : Option (tr_M) :=
  Option.bind (mX5_clear o (M.1 p1 0) M) (fun c1 =>
  Option.bind (show Option (tr_M) from
    tr_loop (mX5_take_l10 o p1) ((0 : Int32), c1)
  ) (fun (v3 : tr_M) =>
    tr_loop (mX5_take_l58 o p1) ((0 : Int32), v3)
  )
  )
set_option maxRecDepth 100000 in
set_option maxHeartbeats 4000000 in
theorem C_X5_take (o : Nat) (ho : tr_isW o) (p1 : Nat) (hp1 : tr_isW p1) (M M' : tr_M) (h : mX5_take o p1 M = some M') : tr_I yX5_take (xX5_take) [.ref o, .ref p1] M none M' := by
  refine tr_I.of (Z := fun q : tr_M => (none : Option Value) = none ∧ M' = q) pn_X5 rfl gdC (Nat.le_of_ble_eq_true rfl) (fun Wt => ?_) h ⟨rfl, rfl⟩
  unfold mX5_take
  refine tr_V.aload_n (i := 0) dX5_take_0 rfl rfl ?_
  refine tr_V.aload_n (i := 1) dX5_take_1 rfl rfl ?_
  refine tr_V.getI fl_X5_9 (shW hp1) rfl dX5_take_2 ?_
  refine tr_V.bd (fun c1 h2 => ?_)
  refine tr_V.callV (C_X5_clear o ho (M.1 p1 0) M _ h2) yk_X5_clear iv_X5_clear ml_X5_54 (shW ho) rfl ⟨rfl, Nat.le_of_ble_eq_true rfl⟩ rfl (Nat.le_of_ble_eq_true rfl) rfl dX5_take_5 ?_
  refine tr_V.iconst (v := (0 : Int32)) dX5_take_8 (by decide) ?_
  refine tr_V.istore_n (i := 2) dX5_take_9 rfl (Nat.le_of_ble_eq_true rfl) rfl ?_
  refine tr_V.seq (τ := tr_M) (pc' := 56) (L := fun v3 => [(0, some (.ref o)), (1, some (.ref p1))]) (S := fun v3 => []) (Mf := fun v3 => v3) ?_ ?_
  · refine tr_V.loop (σ := Int32 × tr_M) (step := mX5_take_l10 o p1) (L := fun s4 => [(0, some (.ref o)), (1, some (.ref p1)), (2, some (.int s4.1))]) (Mf := fun s4 => s4.2) ?_ ((0 : Int32), c1) ⟨rfl, rfl, rfl, trivial⟩
    intro s4
    refine tr_V.iload_n (i := 2) dX5_take_10 rfl rfl ?_
    refine tr_V.aload_n (i := 0) dX5_take_11 rfl rfl ?_
    refine tr_V.getI fl_X5_9 (shW ho) rfl dX5_take_12 ?_
    refine tr_V.icmp_ge (tgt := 56) dX5_take_15 (by decide) ?_ ?_
    · refine tr_V.iload_n (i := 2) dX5_take_18 rfl rfl ?_
      refine tr_V.iconst (v := (1 : Int32)) dX5_take_19 (by decide) ?_
      refine tr_V.iadd dX5_take_20 ?_
      refine tr_V.istore_n (i := 3) dX5_take_21 rfl (Nat.le_of_ble_eq_true rfl) rfl ?_
      refine tr_V.loop (σ := Int32 × tr_M) (step := mX5_take_l22 o p1 s4) (L := fun s5 => [(0, some (.ref o)), (1, some (.ref p1)), (2, some (.int s4.1)), (3, some (.int s5.1))]) (Mf := fun s5 => s5.2) ?_ ((s4.1 + (1 : Int32)), s4.2) ⟨rfl, rfl, rfl, rfl, trivial⟩
      intro s5
      refine tr_V.iload_n (i := 3) dX5_take_22 rfl rfl ?_
      refine tr_V.aload_n (i := 0) dX5_take_23 rfl rfl ?_
      refine tr_V.getI fl_X5_9 (shW ho) rfl dX5_take_24 ?_
      refine tr_V.icmp_ge (tgt := 50) dX5_take_27 (by decide) ?_ ?_
      · refine tr_V.aload_n (i := 0) dX5_take_30 rfl rfl ?_
        refine tr_V.iload_n (i := 2) dX5_take_31 rfl rfl ?_
        refine tr_V.iload_n (i := 3) dX5_take_32 rfl rfl ?_
        refine tr_V.aload_n (i := 1) dX5_take_33 rfl rfl ?_
        refine tr_V.getR (Nat.succ_pos _) fl_X5_23 (shW hp1) rfl dX5_take_34 ?_
        refine tr_V.iload_n (i := 2) dX5_take_37 rfl rfl ?_
        refine tr_V.bd (fun r6 h7 => ?_)
        refine tr_V.aald (ty := .array .int) h7 (shW_1 hp1) (tr_ra_pos h7 (by omega)) (fun _ => rfl) rfl dX5_take_38 ?_
        refine tr_V.iload_n (i := 3) dX5_take_39 rfl rfl ?_
        refine tr_V.bd (fun a8 h9 => ?_)
        refine tr_V.iald h9 (shW_in hp1 h7) dX5_take_40 ?_
        refine tr_V.bd (fun c10 h11 => ?_)
        refine tr_V.callV (C_X5_setTie o ho s4.1 s5.1 a8 s5.2 _ h11) yk_X5_setTie iv_X5_setTie ml_X5_58 (shW ho) rfl ⟨rfl, Nat.le_of_ble_eq_true rfl⟩ rfl (Nat.le_of_ble_eq_true rfl) rfl dX5_take_41 ?_
        refine tr_V.iinc (cst := (1 : Int32)) dX5_take_44 rfl (by decide) rfl ?_
        refine tr_V.goto (tgt := 22) dX5_take_47 (by decide) ?_
        exact tr_V.to (fun h => h) ⟨rfl, rfl, rfl, rfl, trivial⟩
      · refine tr_V.iinc (cst := (1 : Int32)) dX5_take_50 rfl (by decide) rfl ?_
        refine tr_V.goto (tgt := 10) dX5_take_53 (by decide) ?_
        exact tr_V.to (fun h => h) ⟨rfl, rfl, rfl, trivial⟩
    · exact tr_V.to (fun h => h) ⟨rfl, rfl, trivial⟩
  · intro v3
    refine tr_V.iconst (v := (0 : Int32)) dX5_take_56 (by decide) ?_
    refine tr_V.istore_n (i := 2) dX5_take_57 rfl (Nat.le_of_ble_eq_true rfl) rfl ?_
    refine tr_V.loop (σ := Int32 × tr_M) (step := mX5_take_l58 o p1) (L := fun s12 => [(0, some (.ref o)), (1, some (.ref p1)), (2, some (.int s12.1))]) (Mf := fun s12 => s12.2) ?_ ((0 : Int32), v3) ⟨rfl, rfl, rfl, trivial⟩
    intro s12
    refine tr_V.iload_n (i := 2) dX5_take_58 rfl rfl ?_
    refine tr_V.aload_n (i := 1) dX5_take_59 rfl rfl ?_
    refine tr_V.getI fl_X5_15 (shW hp1) rfl dX5_take_60 ?_
    refine tr_V.icmp_ge (tgt := 101) dX5_take_63 (by decide) ?_ ?_
    · refine tr_V.aload_n (i := 0) dX5_take_66 rfl rfl ?_
      refine tr_V.aload_n (i := 1) dX5_take_67 rfl rfl ?_
      refine tr_V.getR (Nat.succ_pos _) fl_X5_33 (shW hp1) rfl dX5_take_68 ?_
      refine tr_V.iload_n (i := 2) dX5_take_71 rfl rfl ?_
      refine tr_V.bd (fun a13 h14 => ?_)
      refine tr_V.iald h14 (shW_14 hp1) dX5_take_72 ?_
      refine tr_V.aload_n (i := 1) dX5_take_73 rfl rfl ?_
      refine tr_V.getR (Nat.succ_pos _) fl_X5_36 (shW hp1) rfl dX5_take_74 ?_
      refine tr_V.iload_n (i := 2) dX5_take_77 rfl rfl ?_
      refine tr_V.bd (fun a15 h16 => ?_)
      refine tr_V.iald h16 (shW_15 hp1) dX5_take_78 ?_
      refine tr_V.aload_n (i := 1) dX5_take_79 rfl rfl ?_
      refine tr_V.getR (Nat.succ_pos _) fl_X5_39 (shW hp1) rfl dX5_take_80 ?_
      refine tr_V.iload_n (i := 2) dX5_take_83 rfl rfl ?_
      refine tr_V.bd (fun a17 h18 => ?_)
      refine tr_V.iald h18 (shW_16 hp1) dX5_take_84 ?_
      refine tr_V.aload_n (i := 1) dX5_take_85 rfl rfl ?_
      refine tr_V.getR (Nat.succ_pos _) fl_X5_42 (shW hp1) rfl dX5_take_86 ?_
      refine tr_V.iload_n (i := 2) dX5_take_89 rfl rfl ?_
      refine tr_V.bd (fun a19 h20 => ?_)
      refine tr_V.iald h20 (shW_17 hp1) dX5_take_90 ?_
      refine tr_V.bd (fun c21 h22 => ?_)
      refine tr_V.callV (C_X5_addRule o ho a13 a15 a17 a19 s12.2 _ h22) yk_X5_addRule iv_X5_addRule ml_X5_62 (shW ho) rfl ⟨rfl, Nat.le_of_ble_eq_true rfl⟩ rfl (Nat.le_of_ble_eq_true rfl) rfl dX5_take_91 ?_
      refine tr_V.pop rfl dX5_take_94 ?_
      refine tr_V.iinc (cst := (1 : Int32)) dX5_take_95 rfl (by decide) rfl ?_
      refine tr_V.goto (tgt := 58) dX5_take_98 (by decide) ?_
      exact tr_V.to (fun h => h) ⟨rfl, rfl, rfl, trivial⟩
    · exact tr_V.vret dX5_take_101 rfl (fun h => h)
abbrev xX5_areUnlike : tr_X := (cX5_areUnlike, 3, RX5, (some .boolean), 2, shC, 81)
theorem cw_X5_areUnlike : Cond.code yX5_areUnlike cX5_areUnlike 3 (some .boolean) ∈ tr_tbl := tr_in 550 (by decide +kernel) rfl
theorem yk_X5_areUnlike : tr_yk yX5_areUnlike (xX5_areUnlike) 2 := ⟨cw_X5_areUnlike, in_X5, ⟨by decide +kernel, by decide +kernel, by decide +kernel⟩, Nat.le_of_ble_eq_true rfl⟩
theorem iv_X5_areUnlike : Cond.instanceMethod yX5_areUnlike ∈ tr_tbl ∧ Cond.selects (yX5_areUnlike).cls yX5_areUnlike yX5_areUnlike ∈ tr_tbl := ⟨tr_in 548 (by decide +kernel) rfl, tr_in 549 (by decide +kernel) rfl⟩
def mX5_areUnlike' (o : Nat) (p1 : Int32) (p2 : Int32) (M : tr_M) : Option Int32 :=
  if (mX5_isThing o p1 M) = 0 then (
    some (0 : Int32)
  ) else (
    if (mX5_isThing o p2 M) = 0 then (
      some (0 : Int32)
    ) else (
      if p1 = p2 then (
        some (0 : Int32)
      ) else (
        some (1 : Int32)
      )
    )
  )
def mX5_areUnlike (o : Nat) (p1 : Int32) (p2 : Int32) (M : tr_M) : Int32 :=
  if (mX5_isThing o p1 M) = 0 then (
    (0 : Int32)
  ) else (
    if (mX5_isThing o p2 M) = 0 then (
      (0 : Int32)
    ) else (
      if p1 = p2 then (
        (0 : Int32)
      ) else (
        (1 : Int32)
      )
    )
  )
theorem mX5_areUnlike_eq (o : Nat) (p1 : Int32) (p2 : Int32) (M : tr_M) : mX5_areUnlike' o p1 p2 M = some (mX5_areUnlike o p1 p2 M) := by
  unfold mX5_areUnlike' mX5_areUnlike
  repeat' split
  all_goals rfl
set_option maxRecDepth 100000 in
set_option maxHeartbeats 4000000 in
theorem C_X5_areUnlike (o : Nat) (ho : tr_isW o) (p1 : Int32) (p2 : Int32) (M : tr_M) : tr_I yX5_areUnlike (xX5_areUnlike) [.ref o, .int p1, .int p2] M (some (.int (mX5_areUnlike o p1 p2 M))) M := by
  refine tr_I.of (Z := fun q : Int32 => (some (.int (mX5_areUnlike o p1 p2 M)) : Option Value) = some (.int q) ∧ M = M) pn_X5 rfl gdC (Nat.le_of_ble_eq_true rfl) (fun Wt => ?_) (mX5_areUnlike_eq o p1 p2 M) ⟨rfl, rfl⟩
  unfold mX5_areUnlike'
  refine tr_V.aload_n (i := 0) dX5_areUnlike_0 rfl rfl ?_
  refine tr_V.iload_n (i := 1) dX5_areUnlike_1 rfl rfl ?_
  refine tr_V.callV (C_X5_isThing o ho p1 M) yk_X5_isThing iv_X5_isThing ml_X5_66 (shW ho) rfl ⟨rfl, Nat.le_of_ble_eq_true rfl⟩ rfl (Nat.le_of_ble_eq_true rfl) rfl dX5_areUnlike_2 ?_
  refine tr_V.if_eq (tgt := 25) dX5_areUnlike_5 (by decide) ?_ ?_
  · refine tr_V.iconst (v := (0 : Int32)) dX5_areUnlike_25 (by decide) ?_
    exact tr_V.zret (by decide) dX5_areUnlike_26 rfl (fun h => h)
  · refine tr_V.aload_n (i := 0) dX5_areUnlike_8 rfl rfl ?_
    refine tr_V.iload_n (i := 2) dX5_areUnlike_9 rfl rfl ?_
    refine tr_V.callV (C_X5_isThing o ho p2 M) yk_X5_isThing iv_X5_isThing ml_X5_66 (shW ho) rfl ⟨rfl, Nat.le_of_ble_eq_true rfl⟩ rfl (Nat.le_of_ble_eq_true rfl) rfl dX5_areUnlike_10 ?_
    refine tr_V.if_eq (tgt := 25) dX5_areUnlike_13 (by decide) ?_ ?_
    · refine tr_V.iconst (v := (0 : Int32)) dX5_areUnlike_25 (by decide) ?_
      exact tr_V.zret (by decide) dX5_areUnlike_26 rfl (fun h => h)
    · refine tr_V.iload_n (i := 1) dX5_areUnlike_16 rfl rfl ?_
      refine tr_V.iload_n (i := 2) dX5_areUnlike_17 rfl rfl ?_
      refine tr_V.icmp_eq (tgt := 25) dX5_areUnlike_18 (by decide) ?_ ?_
      · refine tr_V.iconst (v := (0 : Int32)) dX5_areUnlike_25 (by decide) ?_
        exact tr_V.zret (by decide) dX5_areUnlike_26 rfl (fun h => h)
      · refine tr_V.iconst (v := (1 : Int32)) dX5_areUnlike_21 (by decide) ?_
        refine tr_V.goto (tgt := 26) dX5_areUnlike_22 (by decide) ?_
        exact tr_V.zret (by decide) dX5_areUnlike_26 rfl (fun h => h)
abbrev xX5_memberOf : tr_X := (cX5_memberOf, 5, RX5, (some .int), 1, shC, 81)
theorem cw_X5_memberOf : Cond.code yX5_memberOf cX5_memberOf 5 (some .int) ∈ tr_tbl := tr_in 1063 (by decide +kernel) rfl
theorem yk_X5_memberOf : tr_yk yX5_memberOf (xX5_memberOf) 2 := ⟨cw_X5_memberOf, in_X5, ⟨by decide +kernel, by decide +kernel, by decide +kernel⟩, Nat.le_of_ble_eq_true rfl⟩
theorem iv_X5_memberOf : Cond.instanceMethod yX5_memberOf ∈ tr_tbl ∧ Cond.selects (yX5_memberOf).cls yX5_memberOf yX5_memberOf ∈ tr_tbl := ⟨tr_in 1061 (by decide +kernel) rfl, tr_in 1062 (by decide +kernel) rfl⟩
def mX5_memberOf_l5 (o : Nat) (p1 : Int32) (p2 : Int32) (M : tr_M) (s1 : Int32 × Int32) : Option ((Int32 × Int32) ⊕ (Int32)) :=
  if s1.2 < (M.1 o 0) then (
    if ((p1 >>> (s1.2 &&& 31)) &&& (1 : Int32)) = 0 then (
      some (.inl (s1.1, (s1.2 + (1 : Int32))))
    ) else (
      if s1.1 = p2 then (
        some (.inr s1.2)
      ) else (
        some (.inl ((s1.1 + (1 : Int32)), (s1.2 + (1 : Int32))))
      )
    )
  ) else (
    some (.inr (0 : Int32))
  )
def mX5_memberOf (o : Nat) (p1 : Int32) (p2 : Int32) (M : tr_M) : Option (Int32) :=
  tr_loop (mX5_memberOf_l5 o p1 p2 M) ((0 : Int32), (0 : Int32))
set_option maxRecDepth 100000 in
set_option maxHeartbeats 4000000 in
theorem C_X5_memberOf (o : Nat) (ho : tr_isW o) (p1 : Int32) (p2 : Int32) (M : tr_M) (r : Int32) (h : mX5_memberOf o p1 p2 M = some r) : tr_I yX5_memberOf (xX5_memberOf) [.ref o, .int p1, .int p2] M (some (.int r)) M := by
  refine tr_I.of (Z := fun q : Int32 => (some (.int r) : Option Value) = some (.int q) ∧ M = M) pn_X5 rfl gdC (Nat.le_of_ble_eq_true rfl) (fun Wt => ?_) h ⟨rfl, rfl⟩
  unfold mX5_memberOf
  refine tr_V.iconst (v := (0 : Int32)) dX5_memberOf_0 (by decide) ?_
  refine tr_V.istore_n (i := 3) dX5_memberOf_1 rfl (Nat.le_of_ble_eq_true rfl) rfl ?_
  refine tr_V.iconst (v := (0 : Int32)) dX5_memberOf_2 (by decide) ?_
  refine tr_V.istore (i := 4) dX5_memberOf_3 (Nat.le_of_ble_eq_true rfl) rfl ?_
  refine tr_V.loop (σ := Int32 × Int32) (step := mX5_memberOf_l5 o p1 p2 M) (L := fun s1 => [(0, some (.ref o)), (1, some (.int p1)), (2, some (.int p2)), (3, some (.int s1.1)), (4, some (.int s1.2))]) (Mf := fun s1 => M) ?_ ((0 : Int32), (0 : Int32)) ⟨rfl, rfl, rfl, rfl, rfl, trivial⟩
  intro s1
  refine tr_V.iload dX5_memberOf_5 rfl ?_
  refine tr_V.aload_n (i := 0) dX5_memberOf_7 rfl rfl ?_
  refine tr_V.getI fl_X5_9 (shW ho) rfl dX5_memberOf_8 ?_
  refine tr_V.icmp_ge (tgt := 40) dX5_memberOf_11 (by decide) ?_ ?_
  · refine tr_V.iload_n (i := 1) dX5_memberOf_14 rfl rfl ?_
    refine tr_V.iload dX5_memberOf_15 rfl ?_
    refine tr_V.ishr dX5_memberOf_17 ?_
    refine tr_V.iconst (v := (1 : Int32)) dX5_memberOf_18 (by decide) ?_
    refine tr_V.iand dX5_memberOf_19 ?_
    refine tr_V.if_eq (tgt := 34) dX5_memberOf_20 (by decide) ?_ ?_
    · refine tr_V.iinc (cst := (1 : Int32)) dX5_memberOf_34 rfl (by decide) rfl ?_
      refine tr_V.goto (tgt := 5) dX5_memberOf_37 (by decide) ?_
      exact tr_V.to (fun h => h) ⟨rfl, rfl, rfl, rfl, rfl, trivial⟩
    · refine tr_V.iload_n (i := 3) dX5_memberOf_23 rfl rfl ?_
      refine tr_V.iload_n (i := 2) dX5_memberOf_24 rfl rfl ?_
      refine tr_V.icmp_ne (tgt := 31) dX5_memberOf_25 (by decide) ?_ ?_
      · refine tr_V.iload dX5_memberOf_28 rfl ?_
        exact tr_V.iret dX5_memberOf_30 rfl (fun h => h)
      · refine tr_V.iinc (cst := (1 : Int32)) dX5_memberOf_31 rfl (by decide) rfl ?_
        refine tr_V.iinc (cst := (1 : Int32)) dX5_memberOf_34 rfl (by decide) rfl ?_
        refine tr_V.goto (tgt := 5) dX5_memberOf_37 (by decide) ?_
        exact tr_V.to (fun h => h) ⟨rfl, rfl, rfl, rfl, rfl, trivial⟩
  · refine tr_V.iconst (v := (0 : Int32)) dX5_memberOf_40 (by decide) ?_
    exact tr_V.iret dX5_memberOf_41 rfl (fun h => h)
abbrev xX5_tieCount : tr_X := (cX5_tieCount, 3, RX5, (some .int), 2, shC, 81)
theorem cw_X5_tieCount : Cond.code yX5_tieCount cX5_tieCount 3 (some .int) ∈ tr_tbl := tr_in 1112 (by decide +kernel) rfl
theorem yk_X5_tieCount : tr_yk yX5_tieCount (xX5_tieCount) 0 := ⟨cw_X5_tieCount, in_X5, ⟨by decide +kernel, by decide +kernel, by decide +kernel⟩, Nat.le_of_ble_eq_true rfl⟩
theorem iv_X5_tieCount : Cond.instanceMethod yX5_tieCount ∈ tr_tbl ∧ Cond.selects (yX5_tieCount).cls yX5_tieCount yX5_tieCount ∈ tr_tbl := ⟨tr_in 1110 (by decide +kernel) rfl, tr_in 1111 (by decide +kernel) rfl⟩
def mX5_tieCount_l4 (o : Nat) (M : tr_M) (s1 : Int32 × Int32) : Option ((Int32 × Int32) ⊕ (Int32)) :=
  if s1.2 < (M.1 o 0) then (
    Option.bind (tr_rd 10 M (o + 12) s1.2) (fun a2 =>
    Option.bind (mJ6_bitCount_0f7a4 a2) (fun c4 =>
    some (.inl ((s1.1 + c4), (s1.2 + (1 : Int32))))
    )
    )
  ) else (
    some (.inr (s1.1 / (2 : Int32)))
  )
def mX5_tieCount (o : Nat) (M : tr_M) : Option (Int32) :=
  tr_loop (mX5_tieCount_l4 o M) ((0 : Int32), (0 : Int32))
set_option maxRecDepth 100000 in
set_option maxHeartbeats 4000000 in
theorem C_X5_tieCount (o : Nat) (ho : tr_isW o) (M : tr_M) (r : Int32) (h : mX5_tieCount o M = some r) : tr_I yX5_tieCount (xX5_tieCount) [.ref o] M (some (.int r)) M := by
  refine tr_I.of (Z := fun q : Int32 => (some (.int r) : Option Value) = some (.int q) ∧ M = M) pn_X5 rfl gdC (Nat.le_of_ble_eq_true rfl) (fun Wt => ?_) h ⟨rfl, rfl⟩
  unfold mX5_tieCount
  refine tr_V.iconst (v := (0 : Int32)) dX5_tieCount_0 (by decide) ?_
  refine tr_V.istore_n (i := 1) dX5_tieCount_1 rfl (Nat.le_of_ble_eq_true rfl) rfl ?_
  refine tr_V.iconst (v := (0 : Int32)) dX5_tieCount_2 (by decide) ?_
  refine tr_V.istore_n (i := 2) dX5_tieCount_3 rfl (Nat.le_of_ble_eq_true rfl) rfl ?_
  refine tr_V.loop (σ := Int32 × Int32) (step := mX5_tieCount_l4 o M) (L := fun s1 => [(0, some (.ref o)), (1, some (.int s1.1)), (2, some (.int s1.2))]) (Mf := fun s1 => M) ?_ ((0 : Int32), (0 : Int32)) ⟨rfl, rfl, rfl, trivial⟩
  intro s1
  refine tr_V.iload_n (i := 2) dX5_tieCount_4 rfl rfl ?_
  refine tr_V.aload_n (i := 0) dX5_tieCount_5 rfl rfl ?_
  refine tr_V.getI fl_X5_9 (shW ho) rfl dX5_tieCount_6 ?_
  refine tr_V.icmp_ge (tgt := 30) dX5_tieCount_9 (by decide) ?_ ?_
  · refine tr_V.iload_n (i := 1) dX5_tieCount_12 rfl rfl ?_
    refine tr_V.aload_n (i := 0) dX5_tieCount_13 rfl rfl ?_
    refine tr_V.getR (Nat.succ_pos _) fl_X5_26 (shW ho) rfl dX5_tieCount_14 ?_
    refine tr_V.iload_n (i := 2) dX5_tieCount_17 rfl rfl ?_
    refine tr_V.bd (fun a2 h3 => ?_)
    refine tr_V.iald h3 (shW_12 ho) dX5_tieCount_18 ?_
    refine tr_V.bd (fun c4 h5 => ?_)
    refine tr_V.callS (C_J6_bitCount_0f7a4 shC 81 gdC a2 M _ h5) yk_J6_bitCount_0f7a4 sc_J6_bitCount_0f7a4 ml_X5_73 ⟨rfl, Nat.le_of_ble_eq_true rfl⟩ rfl (Nat.le_of_ble_eq_true rfl) rfl dX5_tieCount_19 ?_
    refine tr_V.iadd dX5_tieCount_22 ?_
    refine tr_V.istore_n (i := 1) dX5_tieCount_23 rfl (Nat.le_of_ble_eq_true rfl) rfl ?_
    refine tr_V.iinc (cst := (1 : Int32)) dX5_tieCount_24 rfl (by decide) rfl ?_
    refine tr_V.goto (tgt := 4) dX5_tieCount_27 (by decide) ?_
    exact tr_V.to (fun h => h) ⟨rfl, rfl, rfl, trivial⟩
  · refine tr_V.iload_n (i := 1) dX5_tieCount_30 rfl rfl ?_
    refine tr_V.iconst (v := (2 : Int32)) dX5_tieCount_31 (by decide) ?_
    refine tr_V.idivL dX5_tieCount_32 (by decide) ?_
    exact tr_V.iret dX5_tieCount_33 rfl (fun h => h)
abbrev xX5_allWeight : tr_X := (cX5_allWeight, 3, RX5, (some .int), 1, shC, 81)
theorem cw_X5_allWeight : Cond.code yX5_allWeight cX5_allWeight 3 (some .int) ∈ tr_tbl := tr_in 1075 (by decide +kernel) rfl
theorem yk_X5_allWeight : tr_yk yX5_allWeight (xX5_allWeight) 0 := ⟨cw_X5_allWeight, in_X5, ⟨by decide +kernel, by decide +kernel, by decide +kernel⟩, Nat.le_of_ble_eq_true rfl⟩
theorem iv_X5_allWeight : Cond.instanceMethod yX5_allWeight ∈ tr_tbl ∧ Cond.selects (yX5_allWeight).cls yX5_allWeight yX5_allWeight ∈ tr_tbl := ⟨tr_in 1073 (by decide +kernel) rfl, tr_in 1074 (by decide +kernel) rfl⟩
def mX5_allWeight_l4 (o : Nat) (M : tr_M) (s1 : Int32 × Int32) : Option ((Int32 × Int32) ⊕ (Int32)) :=
  if s1.2 < (M.1 o 0) then (
    Option.bind (tr_rd 10 M (o + 13) s1.2) (fun a2 =>
    some (.inl ((s1.1 + a2), (s1.2 + (1 : Int32))))
    )
  ) else (
    some (.inr (s1.1 / (2 : Int32)))
  )
def mX5_allWeight (o : Nat) (M : tr_M) : Option (Int32) :=
  tr_loop (mX5_allWeight_l4 o M) ((0 : Int32), (0 : Int32))
set_option maxRecDepth 100000 in
set_option maxHeartbeats 4000000 in
theorem C_X5_allWeight (o : Nat) (ho : tr_isW o) (M : tr_M) (r : Int32) (h : mX5_allWeight o M = some r) : tr_I yX5_allWeight (xX5_allWeight) [.ref o] M (some (.int r)) M := by
  refine tr_I.of (Z := fun q : Int32 => (some (.int r) : Option Value) = some (.int q) ∧ M = M) pn_X5 rfl gdC (Nat.le_of_ble_eq_true rfl) (fun Wt => ?_) h ⟨rfl, rfl⟩
  unfold mX5_allWeight
  refine tr_V.iconst (v := (0 : Int32)) dX5_allWeight_0 (by decide) ?_
  refine tr_V.istore_n (i := 1) dX5_allWeight_1 rfl (Nat.le_of_ble_eq_true rfl) rfl ?_
  refine tr_V.iconst (v := (0 : Int32)) dX5_allWeight_2 (by decide) ?_
  refine tr_V.istore_n (i := 2) dX5_allWeight_3 rfl (Nat.le_of_ble_eq_true rfl) rfl ?_
  refine tr_V.loop (σ := Int32 × Int32) (step := mX5_allWeight_l4 o M) (L := fun s1 => [(0, some (.ref o)), (1, some (.int s1.1)), (2, some (.int s1.2))]) (Mf := fun s1 => M) ?_ ((0 : Int32), (0 : Int32)) ⟨rfl, rfl, rfl, trivial⟩
  intro s1
  refine tr_V.iload_n (i := 2) dX5_allWeight_4 rfl rfl ?_
  refine tr_V.aload_n (i := 0) dX5_allWeight_5 rfl rfl ?_
  refine tr_V.getI fl_X5_9 (shW ho) rfl dX5_allWeight_6 ?_
  refine tr_V.icmp_ge (tgt := 27) dX5_allWeight_9 (by decide) ?_ ?_
  · refine tr_V.iload_n (i := 1) dX5_allWeight_12 rfl rfl ?_
    refine tr_V.aload_n (i := 0) dX5_allWeight_13 rfl rfl ?_
    refine tr_V.getR (Nat.succ_pos _) fl_X5_30 (shW ho) rfl dX5_allWeight_14 ?_
    refine tr_V.iload_n (i := 2) dX5_allWeight_17 rfl rfl ?_
    refine tr_V.bd (fun a2 h3 => ?_)
    refine tr_V.iald h3 (shW_13 ho) dX5_allWeight_18 ?_
    refine tr_V.iadd dX5_allWeight_19 ?_
    refine tr_V.istore_n (i := 1) dX5_allWeight_20 rfl (Nat.le_of_ble_eq_true rfl) rfl ?_
    refine tr_V.iinc (cst := (1 : Int32)) dX5_allWeight_21 rfl (by decide) rfl ?_
    refine tr_V.goto (tgt := 4) dX5_allWeight_24 (by decide) ?_
    exact tr_V.to (fun h => h) ⟨rfl, rfl, rfl, trivial⟩
  · refine tr_V.iload_n (i := 1) dX5_allWeight_27 rfl rfl ?_
    refine tr_V.iconst (v := (2 : Int32)) dX5_allWeight_28 (by decide) ?_
    refine tr_V.idivL dX5_allWeight_29 (by decide) ?_
    exact tr_V.iret dX5_allWeight_30 rfl (fun h => h)
abbrev xX5_isRule : tr_X := (cX5_isRule, 2, RX5, (some .boolean), 1, shC, 81)
theorem cw_X5_isRule : Cond.code yX5_isRule cX5_isRule 2 (some .boolean) ∈ tr_tbl := tr_in 570 (by decide +kernel) rfl
theorem yk_X5_isRule : tr_yk yX5_isRule (xX5_isRule) 1 := ⟨cw_X5_isRule, in_X5, ⟨by decide +kernel, by decide +kernel, by decide +kernel⟩, Nat.le_of_ble_eq_true rfl⟩
theorem iv_X5_isRule : Cond.instanceMethod yX5_isRule ∈ tr_tbl ∧ Cond.selects (yX5_isRule).cls yX5_isRule yX5_isRule ∈ tr_tbl := ⟨tr_in 568 (by decide +kernel) rfl, tr_in 569 (by decide +kernel) rfl⟩
def mX5_isRule' (o : Nat) (p1 : Int32) (M : tr_M) : Option Int32 :=
  if p1 < 0 then (
    some (0 : Int32)
  ) else (
    if p1 < (M.1 o 1) then (
      some (1 : Int32)
    ) else (
      some (0 : Int32)
    )
  )
def mX5_isRule (o : Nat) (p1 : Int32) (M : tr_M) : Int32 :=
  if p1 < 0 then (
    (0 : Int32)
  ) else (
    if p1 < (M.1 o 1) then (
      (1 : Int32)
    ) else (
      (0 : Int32)
    )
  )
theorem mX5_isRule_eq (o : Nat) (p1 : Int32) (M : tr_M) : mX5_isRule' o p1 M = some (mX5_isRule o p1 M) := by
  unfold mX5_isRule' mX5_isRule
  repeat' split
  all_goals rfl
set_option maxRecDepth 100000 in
set_option maxHeartbeats 4000000 in
theorem C_X5_isRule (o : Nat) (ho : tr_isW o) (p1 : Int32) (M : tr_M) : tr_I yX5_isRule (xX5_isRule) [.ref o, .int p1] M (some (.int (mX5_isRule o p1 M))) M := by
  refine tr_I.of (Z := fun q : Int32 => (some (.int (mX5_isRule o p1 M)) : Option Value) = some (.int q) ∧ M = M) pn_X5 rfl gdC (Nat.le_of_ble_eq_true rfl) (fun Wt => ?_) (mX5_isRule_eq o p1 M) ⟨rfl, rfl⟩
  unfold mX5_isRule'
  refine tr_V.iload_n (i := 1) dX5_isRule_0 rfl rfl ?_
  refine tr_V.if_lt (tgt := 16) dX5_isRule_1 (by decide) ?_ ?_
  · refine tr_V.iconst (v := (0 : Int32)) dX5_isRule_16 (by decide) ?_
    exact tr_V.zret (by decide) dX5_isRule_17 rfl (fun h => h)
  · refine tr_V.iload_n (i := 1) dX5_isRule_4 rfl rfl ?_
    refine tr_V.aload_n (i := 0) dX5_isRule_5 rfl rfl ?_
    refine tr_V.getI fl_X5_15 (shW ho) rfl dX5_isRule_6 ?_
    refine tr_V.icmp_ge (tgt := 16) dX5_isRule_9 (by decide) ?_ ?_
    · refine tr_V.iconst (v := (1 : Int32)) dX5_isRule_12 (by decide) ?_
      refine tr_V.goto (tgt := 17) dX5_isRule_13 (by decide) ?_
      exact tr_V.zret (by decide) dX5_isRule_17 rfl (fun h => h)
    · refine tr_V.iconst (v := (0 : Int32)) dX5_isRule_16 (by decide) ?_
      exact tr_V.zret (by decide) dX5_isRule_17 rfl (fun h => h)
abbrev xX5_canRule : tr_X := (cX5_canRule, 5, RX5, (some .boolean), 3, shC, 81)
theorem cw_X5_canRule : Cond.code yX5_canRule cX5_canRule 5 (some .boolean) ∈ tr_tbl := tr_in 560 (by decide +kernel) rfl
theorem yk_X5_canRule : tr_yk yX5_canRule (xX5_canRule) 4 := ⟨cw_X5_canRule, in_X5, ⟨by decide +kernel, by decide +kernel, by decide +kernel⟩, Nat.le_of_ble_eq_true rfl⟩
theorem iv_X5_canRule : Cond.instanceMethod yX5_canRule ∈ tr_tbl ∧ Cond.selects (yX5_canRule).cls yX5_canRule yX5_canRule ∈ tr_tbl := ⟨tr_in 558 (by decide +kernel) rfl, tr_in 559 (by decide +kernel) rfl⟩
def mX5_canRule (o : Nat) (p1 : Int32) (p2 : Int32) (p3 : Int32) (p4 : Int32) (M : tr_M) : Option (Int32) :=
  if p1 = (0 : Int32) then (
    some (1 : Int32)
  ) else (
  if p1 = (1 : Int32) then (
    Option.bind (tr_gd ((mX5_areUnlike o p2 p3 M) &&& 1 == (mX5_areUnlike o p2 p3 M))) (fun _ => some (mX5_areUnlike o p2 p3 M))
  ) else (
  if p1 = (2 : Int32) then (
    Option.bind (tr_gd ((mX5_areUnlike o p2 p3 M) &&& 1 == (mX5_areUnlike o p2 p3 M))) (fun _ => some (mX5_areUnlike o p2 p3 M))
  ) else (
  if p1 = (3 : Int32) then (
    if (mX5_isThing o p2 M) = 0 then (
      some (0 : Int32)
    ) else (
      if p3 < 0 then (
        some (0 : Int32)
      ) else (
        if (9 : Int32) < p3 then (
          some (0 : Int32)
        ) else (
          some (1 : Int32)
        )
      )
    )
  ) else (
  if p1 = (4 : Int32) then (
    if (mX5_isThing o p2 M) = 0 then (
      some (0 : Int32)
    ) else (
      if p3 < 0 then (
        some (0 : Int32)
      ) else (
        if (9 : Int32) < p3 then (
          some (0 : Int32)
        ) else (
          some (1 : Int32)
        )
      )
    )
  ) else (
  if p1 = (5 : Int32) then (
    Option.bind (tr_gd ((mX5_areUnlike o p2 p3 M) &&& 1 == (mX5_areUnlike o p2 p3 M))) (fun _ => some (mX5_areUnlike o p2 p3 M))
  ) else (
  if p1 = (6 : Int32) then (
    if (mX5_areUnlike o p2 p3 M) = 0 then (
      some (0 : Int32)
    ) else (
      if (mX5_areUnlike o p2 p4 M) = 0 then (
        some (0 : Int32)
      ) else (
        if (mX5_areUnlike o p3 p4 M) = 0 then (
          some (0 : Int32)
        ) else (
          some (1 : Int32)
        )
      )
    )
  ) else (
    some (0 : Int32)
  )))))))
set_option maxRecDepth 100000 in
set_option maxHeartbeats 4000000 in
theorem C_X5_canRule (o : Nat) (ho : tr_isW o) (p1 : Int32) (p2 : Int32) (p3 : Int32) (p4 : Int32) (M : tr_M) (r : Int32) (h : mX5_canRule o p1 p2 p3 p4 M = some r) : tr_I yX5_canRule (xX5_canRule) [.ref o, .int p1, .int p2, .int p3, .int p4] M (some (.int r)) M := by
  refine tr_I.of (Z := fun q : Int32 => (some (.int r) : Option Value) = some (.int q) ∧ M = M) pn_X5 rfl gdC (Nat.le_of_ble_eq_true rfl) (fun Wt => ?_) h ⟨rfl, rfl⟩
  unfold mX5_canRule
  refine tr_V.iload_n (i := 1) dX5_canRule_0 rfl rfl ?_
  refine tr_V.case (k := (0 : Int32)) (fun c1 => ?_) (fun c1 => ?_)
  · refine tr_V.tableIn (tgt := 44) dX5_canRule_1 c1 (by decide) rfl (by decide) ?_
    refine tr_V.iconst (v := (1 : Int32)) dX5_canRule_44 (by decide) ?_
    exact tr_V.zret (by decide) dX5_canRule_45 rfl (fun h => h)
  · refine tr_V.case (k := (1 : Int32)) (fun c6 => ?_) (fun c6 => ?_)
    · refine tr_V.tableIn (tgt := 46) dX5_canRule_1 c6 (by decide) rfl (by decide) ?_
      refine tr_V.aload_n (i := 0) dX5_canRule_46 rfl rfl ?_
      refine tr_V.iload_n (i := 2) dX5_canRule_47 rfl rfl ?_
      refine tr_V.iload_n (i := 3) dX5_canRule_48 rfl rfl ?_
      refine tr_V.callV (C_X5_areUnlike o ho p2 p3 M) yk_X5_areUnlike iv_X5_areUnlike ml_X5_79 (shW ho) rfl ⟨rfl, Nat.le_of_ble_eq_true rfl⟩ rfl (Nat.le_of_ble_eq_true rfl) rfl dX5_canRule_49 ?_
      refine tr_V.gd (fun h4 => ?_)
      exact tr_V.zret h4 dX5_canRule_52 rfl (fun h => h)
    · refine tr_V.case (k := (2 : Int32)) (fun c11 => ?_) (fun c11 => ?_)
      · refine tr_V.tableIn (tgt := 46) dX5_canRule_1 c11 (by decide) rfl (by decide) ?_
        refine tr_V.aload_n (i := 0) dX5_canRule_46 rfl rfl ?_
        refine tr_V.iload_n (i := 2) dX5_canRule_47 rfl rfl ?_
        refine tr_V.iload_n (i := 3) dX5_canRule_48 rfl rfl ?_
        refine tr_V.callV (C_X5_areUnlike o ho p2 p3 M) yk_X5_areUnlike iv_X5_areUnlike ml_X5_79 (shW ho) rfl ⟨rfl, Nat.le_of_ble_eq_true rfl⟩ rfl (Nat.le_of_ble_eq_true rfl) rfl dX5_canRule_49 ?_
        refine tr_V.gd (fun h9 => ?_)
        exact tr_V.zret h9 dX5_canRule_52 rfl (fun h => h)
      · refine tr_V.case (k := (3 : Int32)) (fun c14 => ?_) (fun c14 => ?_)
        · refine tr_V.tableIn (tgt := 53) dX5_canRule_1 c14 (by decide) rfl (by decide) ?_
          refine tr_V.aload_n (i := 0) dX5_canRule_53 rfl rfl ?_
          refine tr_V.iload_n (i := 2) dX5_canRule_54 rfl rfl ?_
          refine tr_V.callV (C_X5_isThing o ho p2 M) yk_X5_isThing iv_X5_isThing ml_X5_66 (shW ho) rfl ⟨rfl, Nat.le_of_ble_eq_true rfl⟩ rfl (Nat.le_of_ble_eq_true rfl) rfl dX5_canRule_55 ?_
          refine tr_V.if_eq (tgt := 75) dX5_canRule_58 (by decide) ?_ ?_
          · refine tr_V.iconst (v := (0 : Int32)) dX5_canRule_75 (by decide) ?_
            exact tr_V.zret (by decide) dX5_canRule_76 rfl (fun h => h)
          · refine tr_V.iload_n (i := 3) dX5_canRule_61 rfl rfl ?_
            refine tr_V.if_lt (tgt := 75) dX5_canRule_62 (by decide) ?_ ?_
            · refine tr_V.iconst (v := (0 : Int32)) dX5_canRule_75 (by decide) ?_
              exact tr_V.zret (by decide) dX5_canRule_76 rfl (fun h => h)
            · refine tr_V.iload_n (i := 3) dX5_canRule_65 rfl rfl ?_
              refine tr_V.bipush (v := (9 : Int32)) dX5_canRule_66 (by decide) ?_
              refine tr_V.icmp_gt (tgt := 75) dX5_canRule_68 (by decide) ?_ ?_
              · refine tr_V.iconst (v := (0 : Int32)) dX5_canRule_75 (by decide) ?_
                exact tr_V.zret (by decide) dX5_canRule_76 rfl (fun h => h)
              · refine tr_V.iconst (v := (1 : Int32)) dX5_canRule_71 (by decide) ?_
                refine tr_V.goto (tgt := 76) dX5_canRule_72 (by decide) ?_
                exact tr_V.zret (by decide) dX5_canRule_76 rfl (fun h => h)
        · refine tr_V.case (k := (4 : Int32)) (fun c17 => ?_) (fun c17 => ?_)
          · refine tr_V.tableIn (tgt := 53) dX5_canRule_1 c17 (by decide) rfl (by decide) ?_
            refine tr_V.aload_n (i := 0) dX5_canRule_53 rfl rfl ?_
            refine tr_V.iload_n (i := 2) dX5_canRule_54 rfl rfl ?_
            refine tr_V.callV (C_X5_isThing o ho p2 M) yk_X5_isThing iv_X5_isThing ml_X5_66 (shW ho) rfl ⟨rfl, Nat.le_of_ble_eq_true rfl⟩ rfl (Nat.le_of_ble_eq_true rfl) rfl dX5_canRule_55 ?_
            refine tr_V.if_eq (tgt := 75) dX5_canRule_58 (by decide) ?_ ?_
            · refine tr_V.iconst (v := (0 : Int32)) dX5_canRule_75 (by decide) ?_
              exact tr_V.zret (by decide) dX5_canRule_76 rfl (fun h => h)
            · refine tr_V.iload_n (i := 3) dX5_canRule_61 rfl rfl ?_
              refine tr_V.if_lt (tgt := 75) dX5_canRule_62 (by decide) ?_ ?_
              · refine tr_V.iconst (v := (0 : Int32)) dX5_canRule_75 (by decide) ?_
                exact tr_V.zret (by decide) dX5_canRule_76 rfl (fun h => h)
              · refine tr_V.iload_n (i := 3) dX5_canRule_65 rfl rfl ?_
                refine tr_V.bipush (v := (9 : Int32)) dX5_canRule_66 (by decide) ?_
                refine tr_V.icmp_gt (tgt := 75) dX5_canRule_68 (by decide) ?_ ?_
                · refine tr_V.iconst (v := (0 : Int32)) dX5_canRule_75 (by decide) ?_
                  exact tr_V.zret (by decide) dX5_canRule_76 rfl (fun h => h)
                · refine tr_V.iconst (v := (1 : Int32)) dX5_canRule_71 (by decide) ?_
                  refine tr_V.goto (tgt := 76) dX5_canRule_72 (by decide) ?_
                  exact tr_V.zret (by decide) dX5_canRule_76 rfl (fun h => h)
          · refine tr_V.case (k := (5 : Int32)) (fun c22 => ?_) (fun c22 => ?_)
            · refine tr_V.tableIn (tgt := 46) dX5_canRule_1 c22 (by decide) rfl (by decide) ?_
              refine tr_V.aload_n (i := 0) dX5_canRule_46 rfl rfl ?_
              refine tr_V.iload_n (i := 2) dX5_canRule_47 rfl rfl ?_
              refine tr_V.iload_n (i := 3) dX5_canRule_48 rfl rfl ?_
              refine tr_V.callV (C_X5_areUnlike o ho p2 p3 M) yk_X5_areUnlike iv_X5_areUnlike ml_X5_79 (shW ho) rfl ⟨rfl, Nat.le_of_ble_eq_true rfl⟩ rfl (Nat.le_of_ble_eq_true rfl) rfl dX5_canRule_49 ?_
              refine tr_V.gd (fun h20 => ?_)
              exact tr_V.zret h20 dX5_canRule_52 rfl (fun h => h)
            · refine tr_V.case (k := (6 : Int32)) (fun c29 => ?_) (fun c29 => ?_)
              · refine tr_V.tableIn (tgt := 77) dX5_canRule_1 c29 (by decide) rfl (by decide) ?_
                refine tr_V.aload_n (i := 0) dX5_canRule_77 rfl rfl ?_
                refine tr_V.iload_n (i := 2) dX5_canRule_78 rfl rfl ?_
                refine tr_V.iload_n (i := 3) dX5_canRule_79 rfl rfl ?_
                refine tr_V.callV (C_X5_areUnlike o ho p2 p3 M) yk_X5_areUnlike iv_X5_areUnlike ml_X5_79 (shW ho) rfl ⟨rfl, Nat.le_of_ble_eq_true rfl⟩ rfl (Nat.le_of_ble_eq_true rfl) rfl dX5_canRule_80 ?_
                refine tr_V.if_eq (tgt := 110) dX5_canRule_83 (by decide) ?_ ?_
                · refine tr_V.iconst (v := (0 : Int32)) dX5_canRule_110 (by decide) ?_
                  exact tr_V.zret (by decide) dX5_canRule_111 rfl (fun h => h)
                · refine tr_V.aload_n (i := 0) dX5_canRule_86 rfl rfl ?_
                  refine tr_V.iload_n (i := 2) dX5_canRule_87 rfl rfl ?_
                  refine tr_V.iload dX5_canRule_88 rfl ?_
                  refine tr_V.callV (C_X5_areUnlike o ho p2 p4 M) yk_X5_areUnlike iv_X5_areUnlike ml_X5_79 (shW ho) rfl ⟨rfl, Nat.le_of_ble_eq_true rfl⟩ rfl (Nat.le_of_ble_eq_true rfl) rfl dX5_canRule_90 ?_
                  refine tr_V.if_eq (tgt := 110) dX5_canRule_93 (by decide) ?_ ?_
                  · refine tr_V.iconst (v := (0 : Int32)) dX5_canRule_110 (by decide) ?_
                    exact tr_V.zret (by decide) dX5_canRule_111 rfl (fun h => h)
                  · refine tr_V.aload_n (i := 0) dX5_canRule_96 rfl rfl ?_
                    refine tr_V.iload_n (i := 3) dX5_canRule_97 rfl rfl ?_
                    refine tr_V.iload dX5_canRule_98 rfl ?_
                    refine tr_V.callV (C_X5_areUnlike o ho p3 p4 M) yk_X5_areUnlike iv_X5_areUnlike ml_X5_79 (shW ho) rfl ⟨rfl, Nat.le_of_ble_eq_true rfl⟩ rfl (Nat.le_of_ble_eq_true rfl) rfl dX5_canRule_100 ?_
                    refine tr_V.if_eq (tgt := 110) dX5_canRule_103 (by decide) ?_ ?_
                    · refine tr_V.iconst (v := (0 : Int32)) dX5_canRule_110 (by decide) ?_
                      exact tr_V.zret (by decide) dX5_canRule_111 rfl (fun h => h)
                    · refine tr_V.iconst (v := (1 : Int32)) dX5_canRule_106 (by decide) ?_
                      refine tr_V.goto (tgt := 111) dX5_canRule_107 (by decide) ?_
                      exact tr_V.zret (by decide) dX5_canRule_111 rfl (fun h => h)
              · refine tr_V.tableOut (tgt := 112) dX5_canRule_1 (by have := lv_neT c1 (a := 0) (by decide); have := lv_neT c6 (a := 1) (by decide); have := lv_neT c11 (a := 2) (by decide); have := lv_neT c14 (a := 3) (by decide); have := lv_neT c17 (a := 4) (by decide); have := lv_neT c22 (a := 5) (by decide); have := lv_neT c29 (a := 6) (by decide); omega) (by decide) ?_
                refine tr_V.iconst (v := (0 : Int32)) dX5_canRule_112 (by decide) ?_
                exact tr_V.zret (by decide) dX5_canRule_113 rfl (fun h => h)
abbrev xX5_dropRules : tr_X := (cX5_dropRules, 2, RX5, (Option.none : Option Jvm.ClassFile.FieldType), 1, shC, 81)
theorem cw_X5_dropRules : Cond.code yX5_dropRules cX5_dropRules 2 (Option.none : Option Jvm.ClassFile.FieldType) ∈ tr_tbl := tr_in 586 (by decide +kernel) rfl
theorem yk_X5_dropRules : tr_yk yX5_dropRules (xX5_dropRules) 1 := ⟨cw_X5_dropRules, in_X5, ⟨by decide +kernel, by decide +kernel, by decide +kernel⟩, Nat.le_of_ble_eq_true rfl⟩
theorem iv_X5_dropRules : Cond.instanceMethod yX5_dropRules ∈ tr_tbl ∧ Cond.selects (yX5_dropRules).cls yX5_dropRules yX5_dropRules ∈ tr_tbl := ⟨tr_in 584 (by decide +kernel) rfl, tr_in 585 (by decide +kernel) rfl⟩
def mX5_dropRules (o : Nat) (p1 : Int32) (M : tr_M) : Option (tr_M) :=
  Option.bind (some (tr_st M o 1 p1)) (fun M1 =>
  Option.bind (some (tr_st M1 o 2 ((M1.1 o 2) &&& (((1 : Int32) <<< (p1 &&& 31)) - (1 : Int32))))) (fun M3 =>
  some M3
  )
  )
set_option maxRecDepth 100000 in
set_option maxHeartbeats 4000000 in
theorem C_X5_dropRules (o : Nat) (ho : tr_isW o) (p1 : Int32) (M M' : tr_M) (h : mX5_dropRules o p1 M = some M') : tr_I yX5_dropRules (xX5_dropRules) [.ref o, .int p1] M none M' := by
  refine tr_I.of (Z := fun q : tr_M => (none : Option Value) = none ∧ M' = q) pn_X5 rfl gdC (Nat.le_of_ble_eq_true rfl) (fun Wt => ?_) h ⟨rfl, rfl⟩
  unfold mX5_dropRules
  refine tr_V.aload_n (i := 0) dX5_dropRules_0 rfl rfl ?_
  refine tr_V.iload_n (i := 1) dX5_dropRules_1 rfl rfl ?_
  refine tr_V.bd (fun M1 h2 => ?_)
  refine tr_V.putI fl_X5_15 (shW ho) rfl dX5_dropRules_2 h2 ?_
  refine tr_V.aload_n (i := 0) dX5_dropRules_5 rfl rfl ?_
  refine tr_V.dup rfl dX5_dropRules_6 ?_
  refine tr_V.getI fl_X5_18 (shW ho) rfl dX5_dropRules_7 ?_
  refine tr_V.iconst (v := (1 : Int32)) dX5_dropRules_10 (by decide) ?_
  refine tr_V.iload_n (i := 1) dX5_dropRules_11 rfl rfl ?_
  refine tr_V.ishl dX5_dropRules_12 ?_
  refine tr_V.iconst (v := (1 : Int32)) dX5_dropRules_13 (by decide) ?_
  refine tr_V.isub dX5_dropRules_14 ?_
  refine tr_V.iand dX5_dropRules_15 ?_
  refine tr_V.bd (fun M3 h4 => ?_)
  refine tr_V.putI fl_X5_18 (shW ho) rfl dX5_dropRules_16 h4 ?_
  exact tr_V.vret dX5_dropRules_19 rfl (fun h => h)
abbrev xX5_setOff : tr_X := (cX5_setOff, 3, RX5, (Option.none : Option Jvm.ClassFile.FieldType), 1, shC, 81)
theorem cw_X5_setOff : Cond.code yX5_setOff cX5_setOff 3 (Option.none : Option Jvm.ClassFile.FieldType) ∈ tr_tbl := tr_in 578 (by decide +kernel) rfl
theorem yk_X5_setOff : tr_yk yX5_setOff (xX5_setOff) 2 := ⟨cw_X5_setOff, in_X5, ⟨by decide +kernel, by decide +kernel, by decide +kernel⟩, Nat.le_of_ble_eq_true rfl⟩
theorem iv_X5_setOff : Cond.instanceMethod yX5_setOff ∈ tr_tbl ∧ Cond.selects (yX5_setOff).cls yX5_setOff yX5_setOff ∈ tr_tbl := ⟨tr_in 576 (by decide +kernel) rfl, tr_in 577 (by decide +kernel) rfl⟩
def mX5_setOff (o : Nat) (p1 : Int32) (p2 : Int32) (M : tr_M) : Option (tr_M) :=
  if p2 = 0 then (
    Option.bind (some (tr_st M o 2 ((M.1 o 2) &&& (((1 : Int32) <<< (p1 &&& 31)) ^^^ (-1 : Int32))))) (fun M1 =>
    some M1
    )
  ) else (
    Option.bind (some (tr_st M o 2 ((M.1 o 2) ||| ((1 : Int32) <<< (p1 &&& 31))))) (fun M3 =>
    some M3
    )
  )
set_option maxRecDepth 100000 in
set_option maxHeartbeats 4000000 in
theorem C_X5_setOff (o : Nat) (ho : tr_isW o) (p1 : Int32) (p2 : Int32) (M M' : tr_M) (h : mX5_setOff o p1 p2 M = some M') : tr_I yX5_setOff (xX5_setOff) [.ref o, .int p1, .int p2] M none M' := by
  refine tr_I.of (Z := fun q : tr_M => (none : Option Value) = none ∧ M' = q) pn_X5 rfl gdC (Nat.le_of_ble_eq_true rfl) (fun Wt => ?_) h ⟨rfl, rfl⟩
  unfold mX5_setOff
  refine tr_V.aload_n (i := 0) dX5_setOff_0 rfl rfl ?_
  refine tr_V.iload_n (i := 2) dX5_setOff_1 rfl rfl ?_
  refine tr_V.if_eq (tgt := 16) dX5_setOff_2 (by decide) ?_ ?_
  · refine tr_V.aload_n (i := 0) dX5_setOff_16 rfl rfl ?_
    refine tr_V.getI fl_X5_18 (shW ho) rfl dX5_setOff_17 ?_
    refine tr_V.iconst (v := (1 : Int32)) dX5_setOff_20 (by decide) ?_
    refine tr_V.iload_n (i := 1) dX5_setOff_21 rfl rfl ?_
    refine tr_V.ishl dX5_setOff_22 ?_
    refine tr_V.iconst (v := (-1 : Int32)) dX5_setOff_23 (by decide) ?_
    refine tr_V.ixor dX5_setOff_24 ?_
    refine tr_V.iand dX5_setOff_25 ?_
    refine tr_V.bd (fun M1 h2 => ?_)
    refine tr_V.putI fl_X5_18 (shW ho) rfl dX5_setOff_26 h2 ?_
    exact tr_V.vret dX5_setOff_29 rfl (fun h => h)
  · refine tr_V.aload_n (i := 0) dX5_setOff_5 rfl rfl ?_
    refine tr_V.getI fl_X5_18 (shW ho) rfl dX5_setOff_6 ?_
    refine tr_V.iconst (v := (1 : Int32)) dX5_setOff_9 (by decide) ?_
    refine tr_V.iload_n (i := 1) dX5_setOff_10 rfl rfl ?_
    refine tr_V.ishl dX5_setOff_11 ?_
    refine tr_V.ior dX5_setOff_12 ?_
    refine tr_V.goto (tgt := 26) dX5_setOff_13 (by decide) ?_
    refine tr_V.bd (fun M3 h4 => ?_)
    refine tr_V.putI fl_X5_18 (shW ho) rfl dX5_setOff_26 h4 ?_
    exact tr_V.vret dX5_setOff_29 rfl (fun h => h)
abbrev xX5_ruleNumber : tr_X := (cX5_ruleNumber, 3, RX5, (some .int), 2, shC, 81)
theorem cw_X5_ruleNumber : Cond.code yX5_ruleNumber cX5_ruleNumber 3 (some .int) ∈ tr_tbl := tr_in 594 (by decide +kernel) rfl
theorem yk_X5_ruleNumber : tr_yk yX5_ruleNumber (xX5_ruleNumber) 2 := ⟨cw_X5_ruleNumber, in_X5, ⟨by decide +kernel, by decide +kernel, by decide +kernel⟩, Nat.le_of_ble_eq_true rfl⟩
theorem iv_X5_ruleNumber : Cond.instanceMethod yX5_ruleNumber ∈ tr_tbl ∧ Cond.selects (yX5_ruleNumber).cls yX5_ruleNumber yX5_ruleNumber ∈ tr_tbl := ⟨tr_in 592 (by decide +kernel) rfl, tr_in 593 (by decide +kernel) rfl⟩
def mX5_ruleNumber (o : Nat) (p1 : Int32) (p2 : Int32) (M : tr_M) : Option (Int32) :=
  if p2 = (0 : Int32) then (
    Option.bind (tr_rd 8 M (o + 14) p1) (fun a1 =>
    some a1
    )
  ) else (
  if p2 = (1 : Int32) then (
    Option.bind (tr_rd 8 M (o + 15) p1) (fun a4 =>
    some a4
    )
  ) else (
  if p2 = (2 : Int32) then (
    Option.bind (tr_rd 8 M (o + 16) p1) (fun a7 =>
    some a7
    )
  ) else (
  if p2 = (3 : Int32) then (
    Option.bind (tr_rd 8 M (o + 17) p1) (fun a10 =>
    some a10
    )
  ) else (
    if (mX5_isOff o p1 M) = 0 then (
      some (0 : Int32)
    ) else (
      some (1 : Int32)
    )
  ))))
set_option maxRecDepth 100000 in
set_option maxHeartbeats 4000000 in
theorem C_X5_ruleNumber (o : Nat) (ho : tr_isW o) (p1 : Int32) (p2 : Int32) (M : tr_M) (r : Int32) (h : mX5_ruleNumber o p1 p2 M = some r) : tr_I yX5_ruleNumber (xX5_ruleNumber) [.ref o, .int p1, .int p2] M (some (.int r)) M := by
  refine tr_I.of (Z := fun q : Int32 => (some (.int r) : Option Value) = some (.int q) ∧ M = M) pn_X5 rfl gdC (Nat.le_of_ble_eq_true rfl) (fun Wt => ?_) h ⟨rfl, rfl⟩
  unfold mX5_ruleNumber
  refine tr_V.iload_n (i := 2) dX5_ruleNumber_0 rfl rfl ?_
  refine tr_V.case (k := (0 : Int32)) (fun c3 => ?_) (fun c3 => ?_)
  · refine tr_V.tableIn (tgt := 32) dX5_ruleNumber_1 c3 (by decide) rfl (by decide) ?_
    refine tr_V.aload_n (i := 0) dX5_ruleNumber_32 rfl rfl ?_
    refine tr_V.getR (Nat.succ_pos _) fl_X5_33 (shW ho) rfl dX5_ruleNumber_33 ?_
    refine tr_V.iload_n (i := 1) dX5_ruleNumber_36 rfl rfl ?_
    refine tr_V.bd (fun a1 h2 => ?_)
    refine tr_V.iald h2 (shW_14 ho) dX5_ruleNumber_37 ?_
    exact tr_V.iret dX5_ruleNumber_38 rfl (fun h => h)
  · refine tr_V.case (k := (1 : Int32)) (fun c6 => ?_) (fun c6 => ?_)
    · refine tr_V.tableIn (tgt := 39) dX5_ruleNumber_1 c6 (by decide) rfl (by decide) ?_
      refine tr_V.aload_n (i := 0) dX5_ruleNumber_39 rfl rfl ?_
      refine tr_V.getR (Nat.succ_pos _) fl_X5_36 (shW ho) rfl dX5_ruleNumber_40 ?_
      refine tr_V.iload_n (i := 1) dX5_ruleNumber_43 rfl rfl ?_
      refine tr_V.bd (fun a4 h5 => ?_)
      refine tr_V.iald h5 (shW_15 ho) dX5_ruleNumber_44 ?_
      exact tr_V.iret dX5_ruleNumber_45 rfl (fun h => h)
    · refine tr_V.case (k := (2 : Int32)) (fun c9 => ?_) (fun c9 => ?_)
      · refine tr_V.tableIn (tgt := 46) dX5_ruleNumber_1 c9 (by decide) rfl (by decide) ?_
        refine tr_V.aload_n (i := 0) dX5_ruleNumber_46 rfl rfl ?_
        refine tr_V.getR (Nat.succ_pos _) fl_X5_39 (shW ho) rfl dX5_ruleNumber_47 ?_
        refine tr_V.iload_n (i := 1) dX5_ruleNumber_50 rfl rfl ?_
        refine tr_V.bd (fun a7 h8 => ?_)
        refine tr_V.iald h8 (shW_16 ho) dX5_ruleNumber_51 ?_
        exact tr_V.iret dX5_ruleNumber_52 rfl (fun h => h)
      · refine tr_V.case (k := (3 : Int32)) (fun c12 => ?_) (fun c12 => ?_)
        · refine tr_V.tableIn (tgt := 53) dX5_ruleNumber_1 c12 (by decide) rfl (by decide) ?_
          refine tr_V.aload_n (i := 0) dX5_ruleNumber_53 rfl rfl ?_
          refine tr_V.getR (Nat.succ_pos _) fl_X5_42 (shW ho) rfl dX5_ruleNumber_54 ?_
          refine tr_V.iload_n (i := 1) dX5_ruleNumber_57 rfl rfl ?_
          refine tr_V.bd (fun a10 h11 => ?_)
          refine tr_V.iald h11 (shW_17 ho) dX5_ruleNumber_58 ?_
          exact tr_V.iret dX5_ruleNumber_59 rfl (fun h => h)
        · refine tr_V.tableOut (tgt := 60) dX5_ruleNumber_1 (by have := lv_neT c3 (a := 0) (by decide); have := lv_neT c6 (a := 1) (by decide); have := lv_neT c9 (a := 2) (by decide); have := lv_neT c12 (a := 3) (by decide); omega) (by decide) ?_
          refine tr_V.aload_n (i := 0) dX5_ruleNumber_60 rfl rfl ?_
          refine tr_V.iload_n (i := 1) dX5_ruleNumber_61 rfl rfl ?_
          refine tr_V.callV (C_X5_isOff o ho p1 M) yk_X5_isOff iv_X5_isOff ml_X5_83 (shW ho) rfl ⟨rfl, Nat.le_of_ble_eq_true rfl⟩ rfl (Nat.le_of_ble_eq_true rfl) rfl dX5_ruleNumber_62 ?_
          refine tr_V.if_eq (tgt := 72) dX5_ruleNumber_65 (by decide) ?_ ?_
          · refine tr_V.iconst (v := (0 : Int32)) dX5_ruleNumber_72 (by decide) ?_
            exact tr_V.iret dX5_ruleNumber_73 rfl (fun h => h)
          · refine tr_V.iconst (v := (1 : Int32)) dX5_ruleNumber_68 (by decide) ?_
            refine tr_V.goto (tgt := 73) dX5_ruleNumber_69 (by decide) ?_
            exact tr_V.iret dX5_ruleNumber_73 rfl (fun h => h)
abbrev xX5_isOfKind : tr_X := (cX5_isOfKind, 3, RX5, (some .boolean), 1, shC, 81)
theorem cw_X5_isOfKind : Cond.code yX5_isOfKind cX5_isOfKind 3 (some .boolean) ∈ tr_tbl := tr_in 603 (by decide +kernel) rfl
theorem yk_X5_isOfKind : tr_yk yX5_isOfKind (xX5_isOfKind) 2 := ⟨cw_X5_isOfKind, in_X5, ⟨by decide +kernel, by decide +kernel, by decide +kernel⟩, Nat.le_of_ble_eq_true rfl⟩
theorem iv_X5_isOfKind : Cond.instanceMethod yX5_isOfKind ∈ tr_tbl ∧ Cond.selects (yX5_isOfKind).cls yX5_isOfKind yX5_isOfKind ∈ tr_tbl := ⟨tr_in 601 (by decide +kernel) rfl, tr_in 602 (by decide +kernel) rfl⟩
def mX5_isOfKind (o : Nat) (p1 : Int32) (p2 : Int32) (M : tr_M) : Option (Int32) :=
  Option.bind (tr_rd 8 M (o + 14) p1) (fun a1 =>
  if a1 = p2 then (
    some (1 : Int32)
  ) else (
    Option.bind (show Option ((Unit) ⊕ (Int32)) from
      if p2 = (1 : Int32) then (
        Option.bind (tr_rd 8 M (o + 14) p1) (fun a4 =>
        if a4 = (2 : Int32) then (
          some (.inr (1 : Int32))
        ) else (
          some (.inl ())
        )
        )
      ) else (
        some (.inl ())
      )
    ) (tr_el (fun (v3 : Unit) =>
      if p2 = (5 : Int32) then (
        Option.bind (tr_rd 8 M (o + 14) p1) (fun a6 =>
        if a6 = (6 : Int32) then (
          some (1 : Int32)
        ) else (
          some (0 : Int32)
        )
        )
      ) else (
        some (0 : Int32)
      )
    ))
  )
  )
set_option maxRecDepth 100000 in
set_option maxHeartbeats 4000000 in
theorem C_X5_isOfKind (o : Nat) (ho : tr_isW o) (p1 : Int32) (p2 : Int32) (M : tr_M) (r : Int32) (h : mX5_isOfKind o p1 p2 M = some r) : tr_I yX5_isOfKind (xX5_isOfKind) [.ref o, .int p1, .int p2] M (some (.int r)) M := by
  refine tr_I.of (Z := fun q : Int32 => (some (.int r) : Option Value) = some (.int q) ∧ M = M) pn_X5 rfl gdC (Nat.le_of_ble_eq_true rfl) (fun Wt => ?_) h ⟨rfl, rfl⟩
  unfold mX5_isOfKind
  refine tr_V.aload_n (i := 0) dX5_isOfKind_0 rfl rfl ?_
  refine tr_V.getR (Nat.succ_pos _) fl_X5_33 (shW ho) rfl dX5_isOfKind_1 ?_
  refine tr_V.iload_n (i := 1) dX5_isOfKind_4 rfl rfl ?_
  refine tr_V.bd (fun a1 h2 => ?_)
  refine tr_V.iald h2 (shW_14 ho) dX5_isOfKind_5 ?_
  refine tr_V.iload_n (i := 2) dX5_isOfKind_6 rfl rfl ?_
  refine tr_V.icmp_eq (tgt := 41) dX5_isOfKind_7 (by decide) ?_ ?_
  · refine tr_V.iconst (v := (1 : Int32)) dX5_isOfKind_41 (by decide) ?_
    refine tr_V.goto (tgt := 46) dX5_isOfKind_42 (by decide) ?_
    exact tr_V.zret (by decide) dX5_isOfKind_46 rfl (fun h => h)
  · refine tr_V.iload_n (i := 2) dX5_isOfKind_10 rfl rfl ?_
    refine tr_V.iconst (v := (1 : Int32)) dX5_isOfKind_11 (by decide) ?_
    refine tr_V.seqE (τ := Unit) (pc' := 25) (L := fun v3 => [(0, some (.ref o)), (1, some (.int p1)), (2, some (.int p2))]) (S := fun v3 => []) (Mf := fun v3 => M) ?_ ?_
    · refine tr_V.icmp_ne (tgt := 25) dX5_isOfKind_12 (by decide) ?_ ?_
      · refine tr_V.aload_n (i := 0) dX5_isOfKind_15 rfl rfl ?_
        refine tr_V.getR (Nat.succ_pos _) fl_X5_33 (shW ho) rfl dX5_isOfKind_16 ?_
        refine tr_V.iload_n (i := 1) dX5_isOfKind_19 rfl rfl ?_
        refine tr_V.bd (fun a4 h5 => ?_)
        refine tr_V.iald h5 (shW_14 ho) dX5_isOfKind_20 ?_
        refine tr_V.iconst (v := (2 : Int32)) dX5_isOfKind_21 (by decide) ?_
        refine tr_V.icmp_eq (tgt := 41) dX5_isOfKind_22 (by decide) ?_ ?_
        · refine tr_V.iconst (v := (1 : Int32)) dX5_isOfKind_41 (by decide) ?_
          refine tr_V.goto (tgt := 46) dX5_isOfKind_42 (by decide) ?_
          exact tr_V.zret (by decide) dX5_isOfKind_46 rfl (fun h => h)
        · exact tr_V.to (fun h => h) ⟨rfl, rfl, rfl, trivial⟩
      · exact tr_V.to (fun h => h) ⟨rfl, rfl, rfl, trivial⟩
    · intro v3
      refine tr_V.iload_n (i := 2) dX5_isOfKind_25 rfl rfl ?_
      refine tr_V.iconst (v := (5 : Int32)) dX5_isOfKind_26 (by decide) ?_
      refine tr_V.icmp_ne (tgt := 45) dX5_isOfKind_27 (by decide) ?_ ?_
      · refine tr_V.aload_n (i := 0) dX5_isOfKind_30 rfl rfl ?_
        refine tr_V.getR (Nat.succ_pos _) fl_X5_33 (shW ho) rfl dX5_isOfKind_31 ?_
        refine tr_V.iload_n (i := 1) dX5_isOfKind_34 rfl rfl ?_
        refine tr_V.bd (fun a6 h7 => ?_)
        refine tr_V.iald h7 (shW_14 ho) dX5_isOfKind_35 ?_
        refine tr_V.bipush (v := (6 : Int32)) dX5_isOfKind_36 (by decide) ?_
        refine tr_V.icmp_ne (tgt := 45) dX5_isOfKind_38 (by decide) ?_ ?_
        · refine tr_V.iconst (v := (1 : Int32)) dX5_isOfKind_41 (by decide) ?_
          refine tr_V.goto (tgt := 46) dX5_isOfKind_42 (by decide) ?_
          exact tr_V.zret (by decide) dX5_isOfKind_46 rfl (fun h => h)
        · refine tr_V.iconst (v := (0 : Int32)) dX5_isOfKind_45 (by decide) ?_
          exact tr_V.zret (by decide) dX5_isOfKind_46 rfl (fun h => h)
      · refine tr_V.iconst (v := (0 : Int32)) dX5_isOfKind_45 (by decide) ?_
        exact tr_V.zret (by decide) dX5_isOfKind_46 rfl (fun h => h)
abbrev xX5_aheadCount : tr_X := (cX5_aheadCount, 3, RX5, (some .int), 2, shC, 81)
theorem cw_X5_aheadCount : Cond.code yX5_aheadCount cX5_aheadCount 3 (some .int) ∈ tr_tbl := tr_in 1116 (by decide +kernel) rfl
theorem yk_X5_aheadCount : tr_yk yX5_aheadCount (xX5_aheadCount) 0 := ⟨cw_X5_aheadCount, in_X5, ⟨by decide +kernel, by decide +kernel, by decide +kernel⟩, Nat.le_of_ble_eq_true rfl⟩
theorem iv_X5_aheadCount : Cond.instanceMethod yX5_aheadCount ∈ tr_tbl ∧ Cond.selects (yX5_aheadCount).cls yX5_aheadCount yX5_aheadCount ∈ tr_tbl := ⟨tr_in 1114 (by decide +kernel) rfl, tr_in 1115 (by decide +kernel) rfl⟩
def mX5_aheadCount_l4 (o : Nat) (M : tr_M) (s1 : Int32 × Int32) : Option ((Int32 × Int32) ⊕ (Int32)) :=
  if s1.2 < (M.1 o 1) then (
    Option.bind (mX5_isOfKind o s1.2 (1 : Int32) M) (fun c2 =>
    if c2 = 0 then (
      some (.inl (s1.1, (s1.2 + (1 : Int32))))
    ) else (
      some (.inl ((s1.1 + (1 : Int32)), (s1.2 + (1 : Int32))))
    )
    )
  ) else (
    some (.inr s1.1)
  )
def mX5_aheadCount (o : Nat) (M : tr_M) : Option (Int32) :=
  tr_loop (mX5_aheadCount_l4 o M) ((0 : Int32), (0 : Int32))
set_option maxRecDepth 100000 in
set_option maxHeartbeats 4000000 in
theorem C_X5_aheadCount (o : Nat) (ho : tr_isW o) (M : tr_M) (r : Int32) (h : mX5_aheadCount o M = some r) : tr_I yX5_aheadCount (xX5_aheadCount) [.ref o] M (some (.int r)) M := by
  refine tr_I.of (Z := fun q : Int32 => (some (.int r) : Option Value) = some (.int q) ∧ M = M) pn_X5 rfl gdC (Nat.le_of_ble_eq_true rfl) (fun Wt => ?_) h ⟨rfl, rfl⟩
  unfold mX5_aheadCount
  refine tr_V.iconst (v := (0 : Int32)) dX5_aheadCount_0 (by decide) ?_
  refine tr_V.istore_n (i := 1) dX5_aheadCount_1 rfl (Nat.le_of_ble_eq_true rfl) rfl ?_
  refine tr_V.iconst (v := (0 : Int32)) dX5_aheadCount_2 (by decide) ?_
  refine tr_V.istore_n (i := 2) dX5_aheadCount_3 rfl (Nat.le_of_ble_eq_true rfl) rfl ?_
  refine tr_V.loop (σ := Int32 × Int32) (step := mX5_aheadCount_l4 o M) (L := fun s1 => [(0, some (.ref o)), (1, some (.int s1.1)), (2, some (.int s1.2))]) (Mf := fun s1 => M) ?_ ((0 : Int32), (0 : Int32)) ⟨rfl, rfl, rfl, trivial⟩
  intro s1
  refine tr_V.iload_n (i := 2) dX5_aheadCount_4 rfl rfl ?_
  refine tr_V.aload_n (i := 0) dX5_aheadCount_5 rfl rfl ?_
  refine tr_V.getI fl_X5_15 (shW ho) rfl dX5_aheadCount_6 ?_
  refine tr_V.icmp_ge (tgt := 30) dX5_aheadCount_9 (by decide) ?_ ?_
  · refine tr_V.aload_n (i := 0) dX5_aheadCount_12 rfl rfl ?_
    refine tr_V.iload_n (i := 2) dX5_aheadCount_13 rfl rfl ?_
    refine tr_V.iconst (v := (1 : Int32)) dX5_aheadCount_14 (by decide) ?_
    refine tr_V.bd (fun c2 h3 => ?_)
    refine tr_V.callV (C_X5_isOfKind o ho s1.2 (1 : Int32) M _ h3) yk_X5_isOfKind iv_X5_isOfKind ml_X5_86 (shW ho) rfl ⟨rfl, Nat.le_of_ble_eq_true rfl⟩ rfl (Nat.le_of_ble_eq_true rfl) rfl dX5_aheadCount_15 ?_
    refine tr_V.if_eq (tgt := 24) dX5_aheadCount_18 (by decide) ?_ ?_
    · refine tr_V.iinc (cst := (1 : Int32)) dX5_aheadCount_24 rfl (by decide) rfl ?_
      refine tr_V.goto (tgt := 4) dX5_aheadCount_27 (by decide) ?_
      exact tr_V.to (fun h => h) ⟨rfl, rfl, rfl, trivial⟩
    · refine tr_V.iinc (cst := (1 : Int32)) dX5_aheadCount_21 rfl (by decide) rfl ?_
      refine tr_V.iinc (cst := (1 : Int32)) dX5_aheadCount_24 rfl (by decide) rfl ?_
      refine tr_V.goto (tgt := 4) dX5_aheadCount_27 (by decide) ?_
      exact tr_V.to (fun h => h) ⟨rfl, rfl, rfl, trivial⟩
  · refine tr_V.iload_n (i := 1) dX5_aheadCount_30 rfl rfl ?_
    exact tr_V.iret dX5_aheadCount_31 rfl (fun h => h)
abbrev xX5_markOf : tr_X := (cX5_markOf, 3, RX5, (some .int), 1, shC, 81)
theorem cw_X5_markOf : Cond.code yX5_markOf cX5_markOf 3 (some .int) ∈ tr_tbl := tr_in 607 (by decide +kernel) rfl
theorem yk_X5_markOf : tr_yk yX5_markOf (xX5_markOf) 2 := ⟨cw_X5_markOf, in_X5, ⟨by decide +kernel, by decide +kernel, by decide +kernel⟩, Nat.le_of_ble_eq_true rfl⟩
theorem iv_X5_markOf : Cond.instanceMethod yX5_markOf ∈ tr_tbl ∧ Cond.selects (yX5_markOf).cls yX5_markOf yX5_markOf ∈ tr_tbl := ⟨tr_in 605 (by decide +kernel) rfl, tr_in 606 (by decide +kernel) rfl⟩
def mX5_markOf (o : Nat) (p1 : Int32) (p2 : Int32) (M : tr_M) : Option (Int32) :=
  if p2 = (2 : Int32) then (
    Option.bind (tr_rd 8 M (o + 16) p1) (fun a1 =>
    some a1
    )
  ) else (
  if p2 = (3 : Int32) then (
    Option.bind (tr_rd 8 M (o + 16) p1) (fun a4 =>
    some a4
    )
  ) else (
  if p2 = (4 : Int32) then (
    Option.bind (tr_rd 8 M (o + 16) p1) (fun a7 =>
    some (mJ9_min a7 ((M.1 o 0) - (1 : Int32)))
    )
  ) else (
  if p2 = (5 : Int32) then (
    Option.bind (tr_rd 8 M (o + 14) p1) (fun a10 =>
    if a10 = (6 : Int32) then (
      Option.bind (tr_rd 8 M (o + 16) p1) (fun a12 =>
      Option.bind (tr_rd 8 M (o + 17) p1) (fun a14 =>
      some (mJ9_min a12 a14)
      )
      )
    ) else (
      Option.bind (tr_rd 8 M (o + 15) p1) (fun a16 =>
      Option.bind (tr_rd 8 M (o + 16) p1) (fun a18 =>
      some (mJ9_min a16 a18)
      )
      )
    )
    )
  ) else (
    Option.bind (tr_rd 8 M (o + 15) p1) (fun a21 =>
    some a21
    )
  ))))
set_option maxRecDepth 100000 in
set_option maxHeartbeats 4000000 in
theorem C_X5_markOf (o : Nat) (ho : tr_isW o) (p1 : Int32) (p2 : Int32) (M : tr_M) (r : Int32) (h : mX5_markOf o p1 p2 M = some r) : tr_I yX5_markOf (xX5_markOf) [.ref o, .int p1, .int p2] M (some (.int r)) M := by
  refine tr_I.of (Z := fun q : Int32 => (some (.int r) : Option Value) = some (.int q) ∧ M = M) pn_X5 rfl gdC (Nat.le_of_ble_eq_true rfl) (fun Wt => ?_) h ⟨rfl, rfl⟩
  unfold mX5_markOf
  refine tr_V.iload_n (i := 2) dX5_markOf_0 rfl rfl ?_
  refine tr_V.case (k := (2 : Int32)) (fun c3 => ?_) (fun c3 => ?_)
  · refine tr_V.tableIn (tgt := 32) dX5_markOf_1 c3 (by decide) rfl (by decide) ?_
    refine tr_V.aload_n (i := 0) dX5_markOf_32 rfl rfl ?_
    refine tr_V.getR (Nat.succ_pos _) fl_X5_39 (shW ho) rfl dX5_markOf_33 ?_
    refine tr_V.iload_n (i := 1) dX5_markOf_36 rfl rfl ?_
    refine tr_V.bd (fun a1 h2 => ?_)
    refine tr_V.iald h2 (shW_16 ho) dX5_markOf_37 ?_
    exact tr_V.iret dX5_markOf_38 rfl (fun h => h)
  · refine tr_V.case (k := (3 : Int32)) (fun c6 => ?_) (fun c6 => ?_)
    · refine tr_V.tableIn (tgt := 32) dX5_markOf_1 c6 (by decide) rfl (by decide) ?_
      refine tr_V.aload_n (i := 0) dX5_markOf_32 rfl rfl ?_
      refine tr_V.getR (Nat.succ_pos _) fl_X5_39 (shW ho) rfl dX5_markOf_33 ?_
      refine tr_V.iload_n (i := 1) dX5_markOf_36 rfl rfl ?_
      refine tr_V.bd (fun a4 h5 => ?_)
      refine tr_V.iald h5 (shW_16 ho) dX5_markOf_37 ?_
      exact tr_V.iret dX5_markOf_38 rfl (fun h => h)
    · refine tr_V.case (k := (4 : Int32)) (fun c9 => ?_) (fun c9 => ?_)
      · refine tr_V.tableIn (tgt := 39) dX5_markOf_1 c9 (by decide) rfl (by decide) ?_
        refine tr_V.aload_n (i := 0) dX5_markOf_39 rfl rfl ?_
        refine tr_V.getR (Nat.succ_pos _) fl_X5_39 (shW ho) rfl dX5_markOf_40 ?_
        refine tr_V.iload_n (i := 1) dX5_markOf_43 rfl rfl ?_
        refine tr_V.bd (fun a7 h8 => ?_)
        refine tr_V.iald h8 (shW_16 ho) dX5_markOf_44 ?_
        refine tr_V.aload_n (i := 0) dX5_markOf_45 rfl rfl ?_
        refine tr_V.getI fl_X5_9 (shW ho) rfl dX5_markOf_46 ?_
        refine tr_V.iconst (v := (1 : Int32)) dX5_markOf_49 (by decide) ?_
        refine tr_V.isub dX5_markOf_50 ?_
        refine tr_V.mmin ml_X5_89 w_mminS in_J9 w_mminC (Nat.le_of_ble_eq_true rfl) (Nat.le_of_ble_eq_true rfl) dX5_markOf_51 ?_
        exact tr_V.iret dX5_markOf_54 rfl (fun h => h)
      · refine tr_V.case (k := (5 : Int32)) (fun c20 => ?_) (fun c20 => ?_)
        · refine tr_V.tableIn (tgt := 55) dX5_markOf_1 c20 (by decide) rfl (by decide) ?_
          refine tr_V.aload_n (i := 0) dX5_markOf_55 rfl rfl ?_
          refine tr_V.getR (Nat.succ_pos _) fl_X5_33 (shW ho) rfl dX5_markOf_56 ?_
          refine tr_V.iload_n (i := 1) dX5_markOf_59 rfl rfl ?_
          refine tr_V.bd (fun a10 h11 => ?_)
          refine tr_V.iald h11 (shW_14 ho) dX5_markOf_60 ?_
          refine tr_V.bipush (v := (6 : Int32)) dX5_markOf_61 (by decide) ?_
          refine tr_V.icmp_ne (tgt := 84) dX5_markOf_63 (by decide) ?_ ?_
          · refine tr_V.aload_n (i := 0) dX5_markOf_66 rfl rfl ?_
            refine tr_V.getR (Nat.succ_pos _) fl_X5_39 (shW ho) rfl dX5_markOf_67 ?_
            refine tr_V.iload_n (i := 1) dX5_markOf_70 rfl rfl ?_
            refine tr_V.bd (fun a12 h13 => ?_)
            refine tr_V.iald h13 (shW_16 ho) dX5_markOf_71 ?_
            refine tr_V.aload_n (i := 0) dX5_markOf_72 rfl rfl ?_
            refine tr_V.getR (Nat.succ_pos _) fl_X5_42 (shW ho) rfl dX5_markOf_73 ?_
            refine tr_V.iload_n (i := 1) dX5_markOf_76 rfl rfl ?_
            refine tr_V.bd (fun a14 h15 => ?_)
            refine tr_V.iald h15 (shW_17 ho) dX5_markOf_77 ?_
            refine tr_V.mmin ml_X5_89 w_mminS in_J9 w_mminC (Nat.le_of_ble_eq_true rfl) (Nat.le_of_ble_eq_true rfl) dX5_markOf_78 ?_
            refine tr_V.goto (tgt := 99) dX5_markOf_81 (by decide) ?_
            exact tr_V.iret dX5_markOf_99 rfl (fun h => h)
          · refine tr_V.aload_n (i := 0) dX5_markOf_84 rfl rfl ?_
            refine tr_V.getR (Nat.succ_pos _) fl_X5_36 (shW ho) rfl dX5_markOf_85 ?_
            refine tr_V.iload_n (i := 1) dX5_markOf_88 rfl rfl ?_
            refine tr_V.bd (fun a16 h17 => ?_)
            refine tr_V.iald h17 (shW_15 ho) dX5_markOf_89 ?_
            refine tr_V.aload_n (i := 0) dX5_markOf_90 rfl rfl ?_
            refine tr_V.getR (Nat.succ_pos _) fl_X5_39 (shW ho) rfl dX5_markOf_91 ?_
            refine tr_V.iload_n (i := 1) dX5_markOf_94 rfl rfl ?_
            refine tr_V.bd (fun a18 h19 => ?_)
            refine tr_V.iald h19 (shW_16 ho) dX5_markOf_95 ?_
            refine tr_V.mmin ml_X5_89 w_mminS in_J9 w_mminC (Nat.le_of_ble_eq_true rfl) (Nat.le_of_ble_eq_true rfl) dX5_markOf_96 ?_
            exact tr_V.iret dX5_markOf_99 rfl (fun h => h)
        · refine tr_V.tableOut (tgt := 100) dX5_markOf_1 (by have := lv_neT c3 (a := 2) (by decide); have := lv_neT c6 (a := 3) (by decide); have := lv_neT c9 (a := 4) (by decide); have := lv_neT c20 (a := 5) (by decide); omega) (by decide) ?_
          refine tr_V.aload_n (i := 0) dX5_markOf_100 rfl rfl ?_
          refine tr_V.getR (Nat.succ_pos _) fl_X5_36 (shW ho) rfl dX5_markOf_101 ?_
          refine tr_V.iload_n (i := 1) dX5_markOf_104 rfl rfl ?_
          refine tr_V.bd (fun a21 h22 => ?_)
          refine tr_V.iald h22 (shW_15 ho) dX5_markOf_105 ?_
          exact tr_V.iret dX5_markOf_106 rfl (fun h => h)
abbrev xX5_isOrder : tr_X := (cX5_isOrder, 4, RX5, (some .boolean), 2, shC, 81)
theorem cw_X5_isOrder : Cond.code yX5_isOrder cX5_isOrder 4 (some .boolean) ∈ tr_tbl := tr_in 625 (by decide +kernel) rfl
theorem yk_X5_isOrder : tr_yk yX5_isOrder (xX5_isOrder) 1 := ⟨cw_X5_isOrder, in_X5, ⟨by decide +kernel, by decide +kernel, by decide +kernel⟩, Nat.le_of_ble_eq_true rfl⟩
theorem iv_X5_isOrder : Cond.instanceMethod yX5_isOrder ∈ tr_tbl ∧ Cond.selects (yX5_isOrder).cls yX5_isOrder yX5_isOrder ∈ tr_tbl := ⟨tr_in 623 (by decide +kernel) rfl, tr_in 624 (by decide +kernel) rfl⟩
def mX5_isOrder_l4 (o : Nat) (p1 : Nat) (M : tr_M) (s2 : Int32 × Int32) : Option ((Int32 × Int32) ⊕ ((Int32) ⊕ (Int32))) :=
  if s2.2 < (M.1 o 0) then (
    Option.bind (tr_rd (tr_len shC p1) M p1 s2.2) (fun a3 =>
    if (mX5_isThing o a3 M) = 0 then (
      some (.inr (.inr (0 : Int32)))
    ) else (
      Option.bind (tr_rd (tr_len shC p1) M p1 s2.2) (fun a7 =>
      some (.inl ((s2.1 ||| ((1 : Int32) <<< (a7 &&& 31))), (s2.2 + (1 : Int32))))
      )
    )
    )
  ) else (
    some (.inr (.inl s2.1))
  )
def mX5_isOrder (o : Nat) (p1 : Nat) (M : tr_M) : Option (Int32) :=
  Option.bind (show Option ((Int32) ⊕ (Int32)) from
    tr_loop (mX5_isOrder_l4 o p1 M) ((0 : Int32), (0 : Int32))
  ) (tr_el (fun (v1 : Int32) =>
    if v1 = (mX5_everything o M) then (
      some (1 : Int32)
    ) else (
      some (0 : Int32)
    )
  ))
set_option maxRecDepth 100000 in
set_option maxHeartbeats 4000000 in
theorem C_X5_isOrder (o : Nat) (ho : tr_isW o) (p1 : Nat) (M : tr_M) (r : Int32) (h : mX5_isOrder o p1 M = some r) : tr_I yX5_isOrder (xX5_isOrder) [.ref o, .ref p1] M (some (.int r)) M := by
  refine tr_I.of (Z := fun q : Int32 => (some (.int r) : Option Value) = some (.int q) ∧ M = M) pn_X5 rfl gdC (Nat.le_of_ble_eq_true rfl) (fun Wt => ?_) h ⟨rfl, rfl⟩
  unfold mX5_isOrder
  refine tr_V.iconst (v := (0 : Int32)) dX5_isOrder_0 (by decide) ?_
  refine tr_V.istore_n (i := 2) dX5_isOrder_1 rfl (Nat.le_of_ble_eq_true rfl) rfl ?_
  refine tr_V.iconst (v := (0 : Int32)) dX5_isOrder_2 (by decide) ?_
  refine tr_V.istore_n (i := 3) dX5_isOrder_3 rfl (Nat.le_of_ble_eq_true rfl) rfl ?_
  refine tr_V.seqE (τ := Int32) (pc' := 38) (L := fun v1 => [(0, some (.ref o)), (2, some (.int v1))]) (S := fun v1 => []) (Mf := fun v1 => M) ?_ ?_
  · refine tr_V.loop (σ := Int32 × Int32) (step := mX5_isOrder_l4 o p1 M) (L := fun s2 => [(0, some (.ref o)), (1, some (.ref p1)), (2, some (.int s2.1)), (3, some (.int s2.2))]) (Mf := fun s2 => M) ?_ ((0 : Int32), (0 : Int32)) ⟨rfl, rfl, rfl, rfl, trivial⟩
    intro s2
    refine tr_V.iload_n (i := 3) dX5_isOrder_4 rfl rfl ?_
    refine tr_V.aload_n (i := 0) dX5_isOrder_5 rfl rfl ?_
    refine tr_V.getI fl_X5_9 (shW ho) rfl dX5_isOrder_6 ?_
    refine tr_V.icmp_ge (tgt := 38) dX5_isOrder_9 (by decide) ?_ ?_
    · refine tr_V.aload_n (i := 0) dX5_isOrder_12 rfl rfl ?_
      refine tr_V.aload_n (i := 1) dX5_isOrder_13 rfl rfl ?_
      refine tr_V.iload_n (i := 3) dX5_isOrder_14 rfl rfl ?_
      refine tr_V.bd (fun a3 h4 => ?_)
      refine tr_V.ialdL h4 dX5_isOrder_15 ?_
      refine tr_V.callV (C_X5_isThing o ho a3 M) yk_X5_isThing iv_X5_isThing ml_X5_66 (shW ho) rfl ⟨rfl, Nat.le_of_ble_eq_true rfl⟩ rfl (Nat.le_of_ble_eq_true rfl) rfl dX5_isOrder_16 ?_
      refine tr_V.if_ne (tgt := 24) dX5_isOrder_19 (by decide) ?_ ?_
      · refine tr_V.iconst (v := (0 : Int32)) dX5_isOrder_22 (by decide) ?_
        exact tr_V.zret (by decide) dX5_isOrder_23 rfl (fun h => h)
      · refine tr_V.iload_n (i := 2) dX5_isOrder_24 rfl rfl ?_
        refine tr_V.iconst (v := (1 : Int32)) dX5_isOrder_25 (by decide) ?_
        refine tr_V.aload_n (i := 1) dX5_isOrder_26 rfl rfl ?_
        refine tr_V.iload_n (i := 3) dX5_isOrder_27 rfl rfl ?_
        refine tr_V.bd (fun a7 h8 => ?_)
        refine tr_V.ialdL h8 dX5_isOrder_28 ?_
        refine tr_V.ishl dX5_isOrder_29 ?_
        refine tr_V.ior dX5_isOrder_30 ?_
        refine tr_V.istore_n (i := 2) dX5_isOrder_31 rfl (Nat.le_of_ble_eq_true rfl) rfl ?_
        refine tr_V.iinc (cst := (1 : Int32)) dX5_isOrder_32 rfl (by decide) rfl ?_
        refine tr_V.goto (tgt := 4) dX5_isOrder_35 (by decide) ?_
        exact tr_V.to (fun h => h) ⟨rfl, rfl, rfl, rfl, trivial⟩
    · exact tr_V.to (fun h => h) ⟨rfl, rfl, trivial⟩
  · intro v1
    refine tr_V.iload_n (i := 2) dX5_isOrder_38 rfl rfl ?_
    refine tr_V.aload_n (i := 0) dX5_isOrder_39 rfl rfl ?_
    refine tr_V.callV (C_X5_everything o ho M) yk_X5_everything iv_X5_everything ml_X5_95 (shW ho) rfl ⟨rfl, Nat.le_of_ble_eq_true rfl⟩ rfl (Nat.le_of_ble_eq_true rfl) rfl dX5_isOrder_40 ?_
    refine tr_V.icmp_ne (tgt := 50) dX5_isOrder_43 (by decide) ?_ ?_
    · refine tr_V.iconst (v := (1 : Int32)) dX5_isOrder_46 (by decide) ?_
      refine tr_V.goto (tgt := 51) dX5_isOrder_47 (by decide) ?_
      exact tr_V.zret (by decide) dX5_isOrder_51 rfl (fun h => h)
    · refine tr_V.iconst (v := (0 : Int32)) dX5_isOrder_50 (by decide) ?_
      exact tr_V.zret (by decide) dX5_isOrder_51 rfl (fun h => h)
abbrev xX5_isKept : tr_X := (cX5_isKept, 3, RX5, (some .boolean), 1, shC, 81)
theorem cw_X5_isKept : Cond.code yX5_isKept cX5_isKept 3 (some .boolean) ∈ tr_tbl := tr_in 664 (by decide +kernel) rfl
theorem yk_X5_isKept : tr_yk yX5_isKept (xX5_isKept) 1 := ⟨cw_X5_isKept, in_X5, ⟨by decide +kernel, by decide +kernel, by decide +kernel⟩, Nat.le_of_ble_eq_true rfl⟩
theorem iv_X5_isKept : Cond.instanceMethod yX5_isKept ∈ tr_tbl ∧ Cond.selects (yX5_isKept).cls yX5_isKept yX5_isKept ∈ tr_tbl := ⟨tr_in 663 (by decide +kernel) rfl, tr_in 15 (by decide +kernel) rfl⟩
def mX5_isKept (o : Nat) (p1 : Int32) (M : tr_M) : Option (Int32) :=
  Option.bind (tr_rd 8 M (o + 15) p1) (fun a1 =>
  Option.bind (tr_rd 10 M (o + 18) a1) (fun a3 =>
  Option.bind (tr_rd 8 M (o + 14) p1) (fun a5 =>
  if a5 = (1 : Int32) then (
    Option.bind (tr_rd 8 M (o + 16) p1) (fun a7 =>
    Option.bind (tr_rd 10 M (o + 18) a7) (fun a9 =>
    if a3 < a9 then (
      some (1 : Int32)
    ) else (
      some (0 : Int32)
    )
    )
    )
  ) else (
  if a5 = (2 : Int32) then (
    Option.bind (tr_rd 8 M (o + 16) p1) (fun a12 =>
    Option.bind (tr_rd 10 M (o + 18) a12) (fun a14 =>
    if (a3 + (1 : Int32)) = a14 then (
      some (1 : Int32)
    ) else (
      some (0 : Int32)
    )
    )
    )
  ) else (
  if a5 = (3 : Int32) then (
    Option.bind (tr_rd 8 M (o + 16) p1) (fun a17 =>
    if a3 = a17 then (
      some (1 : Int32)
    ) else (
      some (0 : Int32)
    )
    )
  ) else (
  if a5 = (4 : Int32) then (
    Option.bind (tr_rd 8 M (o + 16) p1) (fun a20 =>
    if a20 < a3 then (
      some (0 : Int32)
    ) else (
      some (1 : Int32)
    )
    )
  ) else (
  if a5 = (5 : Int32) then (
    Option.bind (tr_rd 8 M (o + 16) p1) (fun a23 =>
    Option.bind (tr_rd 10 M (o + 18) a23) (fun a25 =>
    if (mJ9_abs (a3 - a25)) = (1 : Int32) then (
      some (0 : Int32)
    ) else (
      some (1 : Int32)
    )
    )
    )
  ) else (
  if a5 = (6 : Int32) then (
    Option.bind (tr_rd 8 M (o + 16) p1) (fun a28 =>
    Option.bind (tr_rd 10 M (o + 18) a28) (fun a30 =>
    Option.bind (show Option (Int32) from
      if a30 < a3 then (
        some (1 : Int32)
      ) else (
        some (0 : Int32)
      )
    ) (fun (v32 : Int32) =>
      Option.bind (tr_rd 8 M (o + 17) p1) (fun a33 =>
      Option.bind (tr_rd 10 M (o + 18) a33) (fun a35 =>
      Option.bind (show Option (Int32) from
        if a35 < a3 then (
          some (1 : Int32)
        ) else (
          some (0 : Int32)
        )
      ) (fun (v37 : Int32) =>
        if v32 = v37 then (
          some (0 : Int32)
        ) else (
          some (1 : Int32)
        )
      )
      )
      )
    )
    )
    )
  ) else (
    some (1 : Int32)
  ))))))
  )
  )
  )
set_option maxRecDepth 100000 in
set_option maxHeartbeats 4000000 in
theorem C_X5_isKept (o : Nat) (ho : tr_isW o) (p1 : Int32) (M : tr_M) (r : Int32) (h : mX5_isKept o p1 M = some r) : tr_I yX5_isKept (xX5_isKept) [.ref o, .int p1] M (some (.int r)) M := by
  refine tr_I.of (Z := fun q : Int32 => (some (.int r) : Option Value) = some (.int q) ∧ M = M) pn_X5 rfl gdC (Nat.le_of_ble_eq_true rfl) (fun Wt => ?_) h ⟨rfl, rfl⟩
  unfold mX5_isKept
  refine tr_V.aload_n (i := 0) dX5_isKept_0 rfl rfl ?_
  refine tr_V.getR (Nat.succ_pos _) fl_X5_45 (shW ho) rfl dX5_isKept_1 ?_
  refine tr_V.aload_n (i := 0) dX5_isKept_4 rfl rfl ?_
  refine tr_V.getR (Nat.succ_pos _) fl_X5_36 (shW ho) rfl dX5_isKept_5 ?_
  refine tr_V.iload_n (i := 1) dX5_isKept_8 rfl rfl ?_
  refine tr_V.bd (fun a1 h2 => ?_)
  refine tr_V.iald h2 (shW_15 ho) dX5_isKept_9 ?_
  refine tr_V.bd (fun a3 h4 => ?_)
  refine tr_V.iald h4 (shW_18 ho) dX5_isKept_10 ?_
  refine tr_V.istore_n (i := 2) dX5_isKept_11 rfl (Nat.le_of_ble_eq_true rfl) rfl ?_
  refine tr_V.aload_n (i := 0) dX5_isKept_12 rfl rfl ?_
  refine tr_V.getR (Nat.succ_pos _) fl_X5_33 (shW ho) rfl dX5_isKept_13 ?_
  refine tr_V.iload_n (i := 1) dX5_isKept_16 rfl rfl ?_
  refine tr_V.bd (fun a5 h6 => ?_)
  refine tr_V.iald h6 (shW_14 ho) dX5_isKept_17 ?_
  refine tr_V.case (k := (1 : Int32)) (fun c11 => ?_) (fun c11 => ?_)
  · refine tr_V.tableIn (tgt := 56) dX5_isKept_18 c11 (by decide) rfl (by decide) ?_
    refine tr_V.iload_n (i := 2) dX5_isKept_56 rfl rfl ?_
    refine tr_V.aload_n (i := 0) dX5_isKept_57 rfl rfl ?_
    refine tr_V.getR (Nat.succ_pos _) fl_X5_45 (shW ho) rfl dX5_isKept_58 ?_
    refine tr_V.aload_n (i := 0) dX5_isKept_61 rfl rfl ?_
    refine tr_V.getR (Nat.succ_pos _) fl_X5_39 (shW ho) rfl dX5_isKept_62 ?_
    refine tr_V.iload_n (i := 1) dX5_isKept_65 rfl rfl ?_
    refine tr_V.bd (fun a7 h8 => ?_)
    refine tr_V.iald h8 (shW_16 ho) dX5_isKept_66 ?_
    refine tr_V.bd (fun a9 h10 => ?_)
    refine tr_V.iald h10 (shW_18 ho) dX5_isKept_67 ?_
    refine tr_V.icmp_ge (tgt := 75) dX5_isKept_68 (by decide) ?_ ?_
    · refine tr_V.iconst (v := (1 : Int32)) dX5_isKept_71 (by decide) ?_
      refine tr_V.goto (tgt := 76) dX5_isKept_72 (by decide) ?_
      exact tr_V.zret (by decide) dX5_isKept_76 rfl (fun h => h)
    · refine tr_V.iconst (v := (0 : Int32)) dX5_isKept_75 (by decide) ?_
      exact tr_V.zret (by decide) dX5_isKept_76 rfl (fun h => h)
  · refine tr_V.case (k := (2 : Int32)) (fun c16 => ?_) (fun c16 => ?_)
    · refine tr_V.tableIn (tgt := 77) dX5_isKept_18 c16 (by decide) rfl (by decide) ?_
      refine tr_V.iload_n (i := 2) dX5_isKept_77 rfl rfl ?_
      refine tr_V.iconst (v := (1 : Int32)) dX5_isKept_78 (by decide) ?_
      refine tr_V.iadd dX5_isKept_79 ?_
      refine tr_V.aload_n (i := 0) dX5_isKept_80 rfl rfl ?_
      refine tr_V.getR (Nat.succ_pos _) fl_X5_45 (shW ho) rfl dX5_isKept_81 ?_
      refine tr_V.aload_n (i := 0) dX5_isKept_84 rfl rfl ?_
      refine tr_V.getR (Nat.succ_pos _) fl_X5_39 (shW ho) rfl dX5_isKept_85 ?_
      refine tr_V.iload_n (i := 1) dX5_isKept_88 rfl rfl ?_
      refine tr_V.bd (fun a12 h13 => ?_)
      refine tr_V.iald h13 (shW_16 ho) dX5_isKept_89 ?_
      refine tr_V.bd (fun a14 h15 => ?_)
      refine tr_V.iald h15 (shW_18 ho) dX5_isKept_90 ?_
      refine tr_V.icmp_ne (tgt := 98) dX5_isKept_91 (by decide) ?_ ?_
      · refine tr_V.iconst (v := (1 : Int32)) dX5_isKept_94 (by decide) ?_
        refine tr_V.goto (tgt := 99) dX5_isKept_95 (by decide) ?_
        exact tr_V.zret (by decide) dX5_isKept_99 rfl (fun h => h)
      · refine tr_V.iconst (v := (0 : Int32)) dX5_isKept_98 (by decide) ?_
        exact tr_V.zret (by decide) dX5_isKept_99 rfl (fun h => h)
    · refine tr_V.case (k := (3 : Int32)) (fun c19 => ?_) (fun c19 => ?_)
      · refine tr_V.tableIn (tgt := 100) dX5_isKept_18 c19 (by decide) rfl (by decide) ?_
        refine tr_V.iload_n (i := 2) dX5_isKept_100 rfl rfl ?_
        refine tr_V.aload_n (i := 0) dX5_isKept_101 rfl rfl ?_
        refine tr_V.getR (Nat.succ_pos _) fl_X5_39 (shW ho) rfl dX5_isKept_102 ?_
        refine tr_V.iload_n (i := 1) dX5_isKept_105 rfl rfl ?_
        refine tr_V.bd (fun a17 h18 => ?_)
        refine tr_V.iald h18 (shW_16 ho) dX5_isKept_106 ?_
        refine tr_V.icmp_ne (tgt := 114) dX5_isKept_107 (by decide) ?_ ?_
        · refine tr_V.iconst (v := (1 : Int32)) dX5_isKept_110 (by decide) ?_
          refine tr_V.goto (tgt := 115) dX5_isKept_111 (by decide) ?_
          exact tr_V.zret (by decide) dX5_isKept_115 rfl (fun h => h)
        · refine tr_V.iconst (v := (0 : Int32)) dX5_isKept_114 (by decide) ?_
          exact tr_V.zret (by decide) dX5_isKept_115 rfl (fun h => h)
      · refine tr_V.case (k := (4 : Int32)) (fun c22 => ?_) (fun c22 => ?_)
        · refine tr_V.tableIn (tgt := 116) dX5_isKept_18 c22 (by decide) rfl (by decide) ?_
          refine tr_V.iload_n (i := 2) dX5_isKept_116 rfl rfl ?_
          refine tr_V.aload_n (i := 0) dX5_isKept_117 rfl rfl ?_
          refine tr_V.getR (Nat.succ_pos _) fl_X5_39 (shW ho) rfl dX5_isKept_118 ?_
          refine tr_V.iload_n (i := 1) dX5_isKept_121 rfl rfl ?_
          refine tr_V.bd (fun a20 h21 => ?_)
          refine tr_V.iald h21 (shW_16 ho) dX5_isKept_122 ?_
          refine tr_V.icmp_gt (tgt := 130) dX5_isKept_123 (by decide) ?_ ?_
          · refine tr_V.iconst (v := (0 : Int32)) dX5_isKept_130 (by decide) ?_
            exact tr_V.zret (by decide) dX5_isKept_131 rfl (fun h => h)
          · refine tr_V.iconst (v := (1 : Int32)) dX5_isKept_126 (by decide) ?_
            refine tr_V.goto (tgt := 131) dX5_isKept_127 (by decide) ?_
            exact tr_V.zret (by decide) dX5_isKept_131 rfl (fun h => h)
        · refine tr_V.case (k := (5 : Int32)) (fun c27 => ?_) (fun c27 => ?_)
          · refine tr_V.tableIn (tgt := 132) dX5_isKept_18 c27 (by decide) rfl (by decide) ?_
            refine tr_V.iload_n (i := 2) dX5_isKept_132 rfl rfl ?_
            refine tr_V.aload_n (i := 0) dX5_isKept_133 rfl rfl ?_
            refine tr_V.getR (Nat.succ_pos _) fl_X5_45 (shW ho) rfl dX5_isKept_134 ?_
            refine tr_V.aload_n (i := 0) dX5_isKept_137 rfl rfl ?_
            refine tr_V.getR (Nat.succ_pos _) fl_X5_39 (shW ho) rfl dX5_isKept_138 ?_
            refine tr_V.iload_n (i := 1) dX5_isKept_141 rfl rfl ?_
            refine tr_V.bd (fun a23 h24 => ?_)
            refine tr_V.iald h24 (shW_16 ho) dX5_isKept_142 ?_
            refine tr_V.bd (fun a25 h26 => ?_)
            refine tr_V.iald h26 (shW_18 ho) dX5_isKept_143 ?_
            refine tr_V.isub dX5_isKept_144 ?_
            refine tr_V.mabs ml_X5_106 w_mabsS in_J9 w_mabsC (Nat.le_of_ble_eq_true rfl) (Nat.le_of_ble_eq_true rfl) dX5_isKept_145 ?_
            refine tr_V.iconst (v := (1 : Int32)) dX5_isKept_148 (by decide) ?_
            refine tr_V.icmp_eq (tgt := 156) dX5_isKept_149 (by decide) ?_ ?_
            · refine tr_V.iconst (v := (0 : Int32)) dX5_isKept_156 (by decide) ?_
              exact tr_V.zret (by decide) dX5_isKept_157 rfl (fun h => h)
            · refine tr_V.iconst (v := (1 : Int32)) dX5_isKept_152 (by decide) ?_
              refine tr_V.goto (tgt := 157) dX5_isKept_153 (by decide) ?_
              exact tr_V.zret (by decide) dX5_isKept_157 rfl (fun h => h)
          · refine tr_V.case (k := (6 : Int32)) (fun c38 => ?_) (fun c38 => ?_)
            · refine tr_V.tableIn (tgt := 158) dX5_isKept_18 c38 (by decide) rfl (by decide) ?_
              refine tr_V.aload_n (i := 0) dX5_isKept_158 rfl rfl ?_
              refine tr_V.getR (Nat.succ_pos _) fl_X5_45 (shW ho) rfl dX5_isKept_159 ?_
              refine tr_V.aload_n (i := 0) dX5_isKept_162 rfl rfl ?_
              refine tr_V.getR (Nat.succ_pos _) fl_X5_39 (shW ho) rfl dX5_isKept_163 ?_
              refine tr_V.iload_n (i := 1) dX5_isKept_166 rfl rfl ?_
              refine tr_V.bd (fun a28 h29 => ?_)
              refine tr_V.iald h29 (shW_16 ho) dX5_isKept_167 ?_
              refine tr_V.bd (fun a30 h31 => ?_)
              refine tr_V.iald h31 (shW_18 ho) dX5_isKept_168 ?_
              refine tr_V.iload_n (i := 2) dX5_isKept_169 rfl rfl ?_
              refine tr_V.seq (τ := Int32) (pc' := 178) (L := fun v32 => [(0, some (.ref o)), (1, some (.int p1)), (2, some (.int a3))]) (S := fun v32 => [.int v32]) (Mf := fun v32 => M) ?_ ?_
              · refine tr_V.icmp_ge (tgt := 177) dX5_isKept_170 (by decide) ?_ ?_
                · refine tr_V.iconst (v := (1 : Int32)) dX5_isKept_173 (by decide) ?_
                  refine tr_V.goto (tgt := 178) dX5_isKept_174 (by decide) ?_
                  exact tr_V.to (fun h => h) ⟨rfl, rfl, rfl, trivial⟩
                · refine tr_V.iconst (v := (0 : Int32)) dX5_isKept_177 (by decide) ?_
                  exact tr_V.to (fun h => h) ⟨rfl, rfl, rfl, trivial⟩
              · intro v32
                refine tr_V.aload_n (i := 0) dX5_isKept_178 rfl rfl ?_
                refine tr_V.getR (Nat.succ_pos _) fl_X5_45 (shW ho) rfl dX5_isKept_179 ?_
                refine tr_V.aload_n (i := 0) dX5_isKept_182 rfl rfl ?_
                refine tr_V.getR (Nat.succ_pos _) fl_X5_42 (shW ho) rfl dX5_isKept_183 ?_
                refine tr_V.iload_n (i := 1) dX5_isKept_186 rfl rfl ?_
                refine tr_V.bd (fun a33 h34 => ?_)
                refine tr_V.iald h34 (shW_17 ho) dX5_isKept_187 ?_
                refine tr_V.bd (fun a35 h36 => ?_)
                refine tr_V.iald h36 (shW_18 ho) dX5_isKept_188 ?_
                refine tr_V.iload_n (i := 2) dX5_isKept_189 rfl rfl ?_
                refine tr_V.seq (τ := Int32) (pc' := 198) (L := fun v37 => []) (S := fun v37 => [.int v37, .int v32]) (Mf := fun v37 => M) ?_ ?_
                · refine tr_V.icmp_ge (tgt := 197) dX5_isKept_190 (by decide) ?_ ?_
                  · refine tr_V.iconst (v := (1 : Int32)) dX5_isKept_193 (by decide) ?_
                    refine tr_V.goto (tgt := 198) dX5_isKept_194 (by decide) ?_
                    exact tr_V.to (fun h => h) trivial
                  · refine tr_V.iconst (v := (0 : Int32)) dX5_isKept_197 (by decide) ?_
                    exact tr_V.to (fun h => h) trivial
                · intro v37
                  refine tr_V.icmp_eq (tgt := 205) dX5_isKept_198 (by decide) ?_ ?_
                  · refine tr_V.iconst (v := (0 : Int32)) dX5_isKept_205 (by decide) ?_
                    exact tr_V.zret (by decide) dX5_isKept_206 rfl (fun h => h)
                  · refine tr_V.iconst (v := (1 : Int32)) dX5_isKept_201 (by decide) ?_
                    refine tr_V.goto (tgt := 206) dX5_isKept_202 (by decide) ?_
                    exact tr_V.zret (by decide) dX5_isKept_206 rfl (fun h => h)
            · refine tr_V.tableOut (tgt := 207) dX5_isKept_18 (by have := lv_neT c11 (a := 1) (by decide); have := lv_neT c16 (a := 2) (by decide); have := lv_neT c19 (a := 3) (by decide); have := lv_neT c22 (a := 4) (by decide); have := lv_neT c27 (a := 5) (by decide); have := lv_neT c38 (a := 6) (by decide); omega) (by decide) ?_
              refine tr_V.iconst (v := (1 : Int32)) dX5_isKept_207 (by decide) ?_
              exact tr_V.zret (by decide) dX5_isKept_208 rfl (fun h => h)
abbrev xX5_firstBroken : tr_X := (cX5_firstBroken, 3, RX5, (some .int), 2, shC, 81)
theorem cw_X5_firstBroken : Cond.code yX5_firstBroken cX5_firstBroken 3 (some .int) ∈ tr_tbl := tr_in 656 (by decide +kernel) rfl
theorem yk_X5_firstBroken : tr_yk yX5_firstBroken (xX5_firstBroken) 1 := ⟨cw_X5_firstBroken, in_X5, ⟨by decide +kernel, by decide +kernel, by decide +kernel⟩, Nat.le_of_ble_eq_true rfl⟩
theorem iv_X5_firstBroken : Cond.instanceMethod yX5_firstBroken ∈ tr_tbl ∧ Cond.selects (yX5_firstBroken).cls yX5_firstBroken yX5_firstBroken ∈ tr_tbl := ⟨tr_in 654 (by decide +kernel) rfl, tr_in 655 (by decide +kernel) rfl⟩
def mX5_firstBroken_l11 (o : Nat) (c1 : tr_M) (s3 : Int32) : Option ((Int32) ⊕ (Int32 × tr_M)) :=
  if s3 < (c1.1 o 1) then (
    if (mX5_isOff o s3 c1) = 0 then (
      Option.bind (mX5_isKept o s3 c1) (fun c6 =>
      if c6 = 0 then (
        some (.inr (s3, c1))
      ) else (
        some (.inl (s3 + (1 : Int32)))
      )
      )
    ) else (
      some (.inl (s3 + (1 : Int32)))
    )
  ) else (
    some (.inr ((-9 : Int32), c1))
  )
def mX5_firstBroken (o : Nat) (p1 : Nat) (M : tr_M) : Option (Int32 × tr_M) :=
  Option.bind (mX5_seatsOf o p1 (o + 18) M) (fun c1 =>
  tr_loop (mX5_firstBroken_l11 o c1) (0 : Int32)
  )
set_option maxRecDepth 100000 in
set_option maxHeartbeats 4000000 in
theorem C_X5_firstBroken (o : Nat) (ho : tr_isW o) (p1 : Nat) (M : tr_M) (r : Int32 × tr_M) (h : mX5_firstBroken o p1 M = some r) : tr_I yX5_firstBroken (xX5_firstBroken) [.ref o, .ref p1] M (some (.int r.1)) r.2 := by
  refine tr_I.of (Z := fun q : Int32 × tr_M => (some (.int r.1) : Option Value) = some (.int q.1) ∧ r.2 = q.2) pn_X5 rfl gdC (Nat.le_of_ble_eq_true rfl) (fun Wt => ?_) h ⟨rfl, rfl⟩
  unfold mX5_firstBroken
  refine tr_V.aload_n (i := 0) dX5_firstBroken_0 rfl rfl ?_
  refine tr_V.aload_n (i := 1) dX5_firstBroken_1 rfl rfl ?_
  refine tr_V.aload_n (i := 0) dX5_firstBroken_2 rfl rfl ?_
  refine tr_V.getR (Nat.succ_pos _) fl_X5_45 (shW ho) rfl dX5_firstBroken_3 ?_
  refine tr_V.bd (fun c1 h2 => ?_)
  refine tr_V.callV (C_X5_seatsOf o ho p1 (o + 18) M _ h2) yk_X5_seatsOf iv_X5_seatsOf ml_X5_99 (shW ho) rfl ⟨rfl, Nat.le_of_ble_eq_true rfl⟩ rfl (Nat.le_of_ble_eq_true rfl) rfl dX5_firstBroken_6 ?_
  refine tr_V.iconst (v := (0 : Int32)) dX5_firstBroken_9 (by decide) ?_
  refine tr_V.istore_n (i := 2) dX5_firstBroken_10 rfl (Nat.le_of_ble_eq_true rfl) rfl ?_
  refine tr_V.loop (σ := Int32) (step := mX5_firstBroken_l11 o c1) (L := fun s3 => [(0, some (.ref o)), (2, some (.int s3))]) (Mf := fun s3 => c1) ?_ (0 : Int32) ⟨rfl, rfl, trivial⟩
  intro s3
  refine tr_V.iload_n (i := 2) dX5_firstBroken_11 rfl rfl ?_
  refine tr_V.aload_n (i := 0) dX5_firstBroken_12 rfl rfl ?_
  refine tr_V.getI fl_X5_15 (shW ho) rfl dX5_firstBroken_13 ?_
  refine tr_V.icmp_ge (tgt := 43) dX5_firstBroken_16 (by decide) ?_ ?_
  · refine tr_V.aload_n (i := 0) dX5_firstBroken_19 rfl rfl ?_
    refine tr_V.iload_n (i := 2) dX5_firstBroken_20 rfl rfl ?_
    refine tr_V.callV (C_X5_isOff o ho s3 c1) yk_X5_isOff iv_X5_isOff ml_X5_83 (shW ho) rfl ⟨rfl, Nat.le_of_ble_eq_true rfl⟩ rfl (Nat.le_of_ble_eq_true rfl) rfl dX5_firstBroken_21 ?_
    refine tr_V.if_ne (tgt := 37) dX5_firstBroken_24 (by decide) ?_ ?_
    · refine tr_V.aload_n (i := 0) dX5_firstBroken_27 rfl rfl ?_
      refine tr_V.iload_n (i := 2) dX5_firstBroken_28 rfl rfl ?_
      refine tr_V.bd (fun c6 h7 => ?_)
      refine tr_V.callV (C_X5_isKept o ho s3 c1 _ h7) yk_X5_isKept iv_X5_isKept ml_X5_103 (shW ho) rfl ⟨rfl, Nat.le_of_ble_eq_true rfl⟩ rfl (Nat.le_of_ble_eq_true rfl) rfl dX5_firstBroken_29 ?_
      refine tr_V.if_ne (tgt := 37) dX5_firstBroken_32 (by decide) ?_ ?_
      · refine tr_V.iload_n (i := 2) dX5_firstBroken_35 rfl rfl ?_
        exact tr_V.iret dX5_firstBroken_36 rfl (fun h => h)
      · refine tr_V.iinc (cst := (1 : Int32)) dX5_firstBroken_37 rfl (by decide) rfl ?_
        refine tr_V.goto (tgt := 11) dX5_firstBroken_40 (by decide) ?_
        exact tr_V.to (fun h => h) ⟨rfl, rfl, trivial⟩
    · refine tr_V.iinc (cst := (1 : Int32)) dX5_firstBroken_37 rfl (by decide) rfl ?_
      refine tr_V.goto (tgt := 11) dX5_firstBroken_40 (by decide) ?_
      exact tr_V.to (fun h => h) ⟨rfl, rfl, trivial⟩
  · refine tr_V.bipush (v := (-9 : Int32)) dX5_firstBroken_43 (by decide) ?_
    exact tr_V.iret dX5_firstBroken_45 rfl (fun h => h)
abbrev xX5_nearestProducts : tr_X := (cX5_nearestProducts, 6, RX5, (some .int), 1, shC, 81)
theorem cw_X5_nearestProducts : Cond.code yX5_nearestProducts cX5_nearestProducts 6 (some .int) ∈ tr_tbl := tr_in 866 (by decide +kernel) rfl
theorem yk_X5_nearestProducts : tr_yk yX5_nearestProducts (xX5_nearestProducts) 0 := ⟨cw_X5_nearestProducts, in_X5, ⟨by decide +kernel, by decide +kernel, by decide +kernel⟩, Nat.le_of_ble_eq_true rfl⟩
theorem iv_X5_nearestProducts : Cond.instanceMethod yX5_nearestProducts ∈ tr_tbl ∧ Cond.selects (yX5_nearestProducts).cls yX5_nearestProducts yX5_nearestProducts ∈ tr_tbl := ⟨tr_in 865 (by decide +kernel) rfl, tr_in 34 (by decide +kernel) rfl⟩
def mX5_nearestProducts_l26 (o : Nat) (M : tr_M) (s1 : Int32 × Int32) (s2 : Int32 × Int32 × Int32) (s3 : Int32 × Int32 × Int32) : Option ((Int32 × Int32 × Int32) ⊕ ((Int32 × Int32 × Int32) ⊕ ((Int32 × Int32) ⊕ (Int32)))) :=
  if s3.2.2 < (M.1 o 0) then (
    Option.bind (tr_ra 10 (fun i => o + 2 + i) s1.2) (fun r4 =>
    Option.bind (tr_rd 10 M r4 s3.2.2) (fun a6 =>
    if a6 = s2.2.2 then (
      Option.bind (some (s3.1 + (s2.2.2 * ((s3.2.1 / (2 : Int32)) + (1 : Int32))))) (fun x8 =>
      some (.inl (x8, (s3.2.1 + (1 : Int32)), (s3.2.2 + (1 : Int32))))
      )
    ) else (
      some (.inl (s3.1, s3.2.1, (s3.2.2 + (1 : Int32))))
    )
    )
    )
  ) else (
    Option.bind (some (s2.2.2 + (-1 : Int32))) (fun x10 =>
    some (.inr (.inl (s3.1, s3.2.1, x10)))
    )
  )
def mX5_nearestProducts_l18 (o : Nat) (M : tr_M) (s1 : Int32 × Int32) (s2 : Int32 × Int32 × Int32) : Option ((Int32 × Int32 × Int32) ⊕ ((Int32 × Int32) ⊕ (Int32))) :=
  if 0 < s2.2.2 then (
    tr_loop (mX5_nearestProducts_l26 o M s1 s2) (s2.1, s2.2.1, (0 : Int32))
  ) else (
    some (.inr (.inl (s2.1, (s1.2 + (1 : Int32)))))
  )
def mX5_nearestProducts_l4 (o : Nat) (M : tr_M) (s1 : Int32 × Int32) : Option ((Int32 × Int32) ⊕ (Int32)) :=
  if s1.2 < (M.1 o 0) then (
    tr_loop (mX5_nearestProducts_l18 o M s1) (s1.1, (0 : Int32), (9 : Int32))
  ) else (
    some (.inr s1.1)
  )
def mX5_nearestProducts (o : Nat) (M : tr_M) : Option (Int32) :=
  tr_loop (mX5_nearestProducts_l4 o M) ((0 : Int32), (0 : Int32))
set_option maxRecDepth 100000 in
set_option maxHeartbeats 4000000 in
theorem C_X5_nearestProducts (o : Nat) (ho : tr_isW o) (M : tr_M) (r : Int32) (h : mX5_nearestProducts o M = some r) : tr_I yX5_nearestProducts (xX5_nearestProducts) [.ref o] M (some (.int r)) M := by
  refine tr_I.of (Z := fun q : Int32 => (some (.int r) : Option Value) = some (.int q) ∧ M = M) pn_X5 rfl gdC (Nat.le_of_ble_eq_true rfl) (fun Wt => ?_) h ⟨rfl, rfl⟩
  unfold mX5_nearestProducts
  refine tr_V.iconst (v := (0 : Int32)) dX5_nearestProducts_0 (by decide) ?_
  refine tr_V.istore_n (i := 1) dX5_nearestProducts_1 rfl (Nat.le_of_ble_eq_true rfl) rfl ?_
  refine tr_V.iconst (v := (0 : Int32)) dX5_nearestProducts_2 (by decide) ?_
  refine tr_V.istore_n (i := 2) dX5_nearestProducts_3 rfl (Nat.le_of_ble_eq_true rfl) rfl ?_
  refine tr_V.loop (σ := Int32 × Int32) (step := mX5_nearestProducts_l4 o M) (L := fun s1 => [(0, some (.ref o)), (1, some (.int s1.1)), (2, some (.int s1.2))]) (Mf := fun s1 => M) ?_ ((0 : Int32), (0 : Int32)) ⟨rfl, rfl, rfl, trivial⟩
  intro s1
  refine tr_V.iload_n (i := 2) dX5_nearestProducts_4 rfl rfl ?_
  refine tr_V.aload_n (i := 0) dX5_nearestProducts_5 rfl rfl ?_
  refine tr_V.getI fl_X5_9 (shW ho) rfl dX5_nearestProducts_6 ?_
  refine tr_V.icmp_ge (tgt := 81) dX5_nearestProducts_9 (by decide) ?_ ?_
  · refine tr_V.iconst (v := (0 : Int32)) dX5_nearestProducts_12 (by decide) ?_
    refine tr_V.istore_n (i := 3) dX5_nearestProducts_13 rfl (Nat.le_of_ble_eq_true rfl) rfl ?_
    refine tr_V.bipush (v := (9 : Int32)) dX5_nearestProducts_14 (by decide) ?_
    refine tr_V.istore (i := 4) dX5_nearestProducts_16 (Nat.le_of_ble_eq_true rfl) rfl ?_
    refine tr_V.loop (σ := Int32 × Int32 × Int32) (step := mX5_nearestProducts_l18 o M s1) (L := fun s2 => [(0, some (.ref o)), (1, some (.int s2.1)), (2, some (.int s1.2)), (3, some (.int s2.2.1)), (4, some (.int s2.2.2))]) (Mf := fun s2 => M) ?_ (s1.1, (0 : Int32), (9 : Int32)) ⟨rfl, rfl, rfl, rfl, rfl, trivial⟩
    intro s2
    refine tr_V.iload dX5_nearestProducts_18 rfl ?_
    refine tr_V.if_le (tgt := 75) dX5_nearestProducts_20 (by decide) ?_ ?_
    · refine tr_V.iconst (v := (0 : Int32)) dX5_nearestProducts_23 (by decide) ?_
      refine tr_V.istore (i := 5) dX5_nearestProducts_24 (Nat.le_of_ble_eq_true rfl) rfl ?_
      refine tr_V.loop (σ := Int32 × Int32 × Int32) (step := mX5_nearestProducts_l26 o M s1 s2) (L := fun s3 => [(0, some (.ref o)), (1, some (.int s3.1)), (2, some (.int s1.2)), (3, some (.int s3.2.1)), (4, some (.int s2.2.2)), (5, some (.int s3.2.2))]) (Mf := fun s3 => M) ?_ (s2.1, s2.2.1, (0 : Int32)) ⟨rfl, rfl, rfl, rfl, rfl, rfl, trivial⟩
      intro s3
      refine tr_V.iload dX5_nearestProducts_26 rfl ?_
      refine tr_V.aload_n (i := 0) dX5_nearestProducts_28 rfl rfl ?_
      refine tr_V.getI fl_X5_9 (shW ho) rfl dX5_nearestProducts_29 ?_
      refine tr_V.icmp_ge (tgt := 69) dX5_nearestProducts_32 (by decide) ?_ ?_
      · refine tr_V.aload_n (i := 0) dX5_nearestProducts_35 rfl rfl ?_
        refine tr_V.getR (Nat.succ_pos _) fl_X5_23 (shW ho) rfl dX5_nearestProducts_36 ?_
        refine tr_V.iload_n (i := 2) dX5_nearestProducts_39 rfl rfl ?_
        refine tr_V.bd (fun r4 h5 => ?_)
        refine tr_V.aald (ty := .array .int) h5 (shW_1 ho) (tr_ra_pos h5 (by omega)) (fun _ => rfl) rfl dX5_nearestProducts_40 ?_
        refine tr_V.iload dX5_nearestProducts_41 rfl ?_
        refine tr_V.bd (fun a6 h7 => ?_)
        refine tr_V.iald h7 (shW_in ho h5) dX5_nearestProducts_43 ?_
        refine tr_V.iload dX5_nearestProducts_44 rfl ?_
        refine tr_V.icmp_ne (tgt := 63) dX5_nearestProducts_46 (by decide) ?_ ?_
        · refine tr_V.iload_n (i := 1) dX5_nearestProducts_49 rfl rfl ?_
          refine tr_V.iload dX5_nearestProducts_50 rfl ?_
          refine tr_V.iload_n (i := 3) dX5_nearestProducts_52 rfl rfl ?_
          refine tr_V.iconst (v := (2 : Int32)) dX5_nearestProducts_53 (by decide) ?_
          refine tr_V.idivL dX5_nearestProducts_54 (by decide) ?_
          refine tr_V.iconst (v := (1 : Int32)) dX5_nearestProducts_55 (by decide) ?_
          refine tr_V.iadd dX5_nearestProducts_56 ?_
          refine tr_V.imul dX5_nearestProducts_57 ?_
          refine tr_V.iadd dX5_nearestProducts_58 ?_
          refine tr_V.bd (fun x8 h9 => ?_)
          refine tr_V.nmI h9 ?_
          refine tr_V.istore_n (i := 1) dX5_nearestProducts_59 rfl (Nat.le_of_ble_eq_true rfl) rfl ?_
          refine tr_V.iinc (cst := (1 : Int32)) dX5_nearestProducts_60 rfl (by decide) rfl ?_
          refine tr_V.iinc (cst := (1 : Int32)) dX5_nearestProducts_63 rfl (by decide) rfl ?_
          refine tr_V.goto (tgt := 26) dX5_nearestProducts_66 (by decide) ?_
          exact tr_V.to (fun h => h) ⟨rfl, rfl, rfl, rfl, rfl, rfl, trivial⟩
        · refine tr_V.iinc (cst := (1 : Int32)) dX5_nearestProducts_63 rfl (by decide) rfl ?_
          refine tr_V.goto (tgt := 26) dX5_nearestProducts_66 (by decide) ?_
          exact tr_V.to (fun h => h) ⟨rfl, rfl, rfl, rfl, rfl, rfl, trivial⟩
      · refine tr_V.bd (fun x10 h11 => ?_)
        refine tr_V.iincN (cst := (-1 : Int32)) dX5_nearestProducts_69 rfl (by decide) rfl h11 ?_
        refine tr_V.goto (tgt := 18) dX5_nearestProducts_72 (by decide) ?_
        exact tr_V.to (fun h => h) ⟨rfl, rfl, rfl, rfl, rfl, trivial⟩
    · refine tr_V.iinc (cst := (1 : Int32)) dX5_nearestProducts_75 rfl (by decide) rfl ?_
      refine tr_V.goto (tgt := 4) dX5_nearestProducts_78 (by decide) ?_
      exact tr_V.to (fun h => h) ⟨rfl, rfl, rfl, trivial⟩
  · refine tr_V.iload_n (i := 1) dX5_nearestProducts_81 rfl rfl ?_
    exact tr_V.iret dX5_nearestProducts_82 rfl (fun h => h)
abbrev xX5_halfCutUp : tr_X := (cX5_halfCutUp, 1, RX5, (some .int), 1, shC, 81)
theorem cw_X5_halfCutUp : Cond.code yX5_halfCutUp cX5_halfCutUp 1 (some .int) ∈ tr_tbl := tr_in 869 (by decide +kernel) rfl
theorem yk_X5_halfCutUp : tr_yk yX5_halfCutUp (xX5_halfCutUp) 1 := ⟨cw_X5_halfCutUp, in_X5, ⟨by decide +kernel, by decide +kernel, by decide +kernel⟩, Nat.le_of_ble_eq_true rfl⟩
theorem sc_X5_halfCutUp : Cond.static yX5_halfCutUp ∈ tr_tbl := tr_in 868 (by decide +kernel) rfl
def mX5_halfCutUp' (p0 : Int32) : Option Int32 :=
  some ((p0 + (1 : Int32)) / (2 : Int32))
def mX5_halfCutUp (p0 : Int32) : Int32 :=
  ((p0 + (1 : Int32)) / (2 : Int32))
theorem mX5_halfCutUp_eq (p0 : Int32) : mX5_halfCutUp' p0 = some (mX5_halfCutUp p0) := by
  unfold mX5_halfCutUp' mX5_halfCutUp
  rfl
set_option maxRecDepth 100000 in
set_option maxHeartbeats 4000000 in
theorem C_X5_halfCutUp (p0 : Int32) (M : tr_M) : tr_I yX5_halfCutUp (xX5_halfCutUp) [.int p0] M (some (.int (mX5_halfCutUp p0))) M := by
  refine tr_I.of (Z := fun q : Int32 => (some (.int (mX5_halfCutUp p0)) : Option Value) = some (.int q) ∧ M = M) pn_X5 rfl gdC (Nat.le_of_ble_eq_true rfl) (fun Wt => ?_) (mX5_halfCutUp_eq p0) ⟨rfl, rfl⟩
  unfold mX5_halfCutUp'
  refine tr_V.iload_n (i := 0) dX5_halfCutUp_0 rfl rfl ?_
  refine tr_V.iconst (v := (1 : Int32)) dX5_halfCutUp_1 (by decide) ?_
  refine tr_V.iadd dX5_halfCutUp_2 ?_
  refine tr_V.iconst (v := (2 : Int32)) dX5_halfCutUp_3 (by decide) ?_
  refine tr_V.idivL dX5_halfCutUp_4 (by decide) ?_
  exact tr_V.iret dX5_halfCutUp_5 rfl (fun h => h)
abbrev xX5_mostLoad : tr_X := (cX5_mostLoad, 3, RX5, (some .int), 1, shC, 81)
theorem cw_X5_mostLoad : Cond.code yX5_mostLoad cX5_mostLoad 3 (some .int) ∈ tr_tbl := tr_in 873 (by decide +kernel) rfl
theorem yk_X5_mostLoad : tr_yk yX5_mostLoad (xX5_mostLoad) 0 := ⟨cw_X5_mostLoad, in_X5, ⟨by decide +kernel, by decide +kernel, by decide +kernel⟩, Nat.le_of_ble_eq_true rfl⟩
theorem iv_X5_mostLoad : Cond.instanceMethod yX5_mostLoad ∈ tr_tbl ∧ Cond.selects (yX5_mostLoad).cls yX5_mostLoad yX5_mostLoad ∈ tr_tbl := ⟨tr_in 872 (by decide +kernel) rfl, tr_in 35 (by decide +kernel) rfl⟩
def mX5_mostLoad_l4 (o : Nat) (M : tr_M) (s1 : Int32 × Int32) : Option ((Int32 × Int32) ⊕ (Int32)) :=
  if s1.2 < (M.1 o 0) then (
    Option.bind (tr_rd 10 M (o + 13) s1.2) (fun a2 =>
    some (.inl ((mJ9_max s1.1 a2), (s1.2 + (1 : Int32))))
    )
  ) else (
    some (.inr s1.1)
  )
def mX5_mostLoad (o : Nat) (M : tr_M) : Option (Int32) :=
  tr_loop (mX5_mostLoad_l4 o M) ((0 : Int32), (0 : Int32))
set_option maxRecDepth 100000 in
set_option maxHeartbeats 4000000 in
theorem C_X5_mostLoad (o : Nat) (ho : tr_isW o) (M : tr_M) (r : Int32) (h : mX5_mostLoad o M = some r) : tr_I yX5_mostLoad (xX5_mostLoad) [.ref o] M (some (.int r)) M := by
  refine tr_I.of (Z := fun q : Int32 => (some (.int r) : Option Value) = some (.int q) ∧ M = M) pn_X5 rfl gdC (Nat.le_of_ble_eq_true rfl) (fun Wt => ?_) h ⟨rfl, rfl⟩
  unfold mX5_mostLoad
  refine tr_V.iconst (v := (0 : Int32)) dX5_mostLoad_0 (by decide) ?_
  refine tr_V.istore_n (i := 1) dX5_mostLoad_1 rfl (Nat.le_of_ble_eq_true rfl) rfl ?_
  refine tr_V.iconst (v := (0 : Int32)) dX5_mostLoad_2 (by decide) ?_
  refine tr_V.istore_n (i := 2) dX5_mostLoad_3 rfl (Nat.le_of_ble_eq_true rfl) rfl ?_
  refine tr_V.loop (σ := Int32 × Int32) (step := mX5_mostLoad_l4 o M) (L := fun s1 => [(0, some (.ref o)), (1, some (.int s1.1)), (2, some (.int s1.2))]) (Mf := fun s1 => M) ?_ ((0 : Int32), (0 : Int32)) ⟨rfl, rfl, rfl, trivial⟩
  intro s1
  refine tr_V.iload_n (i := 2) dX5_mostLoad_4 rfl rfl ?_
  refine tr_V.aload_n (i := 0) dX5_mostLoad_5 rfl rfl ?_
  refine tr_V.getI fl_X5_9 (shW ho) rfl dX5_mostLoad_6 ?_
  refine tr_V.icmp_ge (tgt := 29) dX5_mostLoad_9 (by decide) ?_ ?_
  · refine tr_V.iload_n (i := 1) dX5_mostLoad_12 rfl rfl ?_
    refine tr_V.aload_n (i := 0) dX5_mostLoad_13 rfl rfl ?_
    refine tr_V.getR (Nat.succ_pos _) fl_X5_30 (shW ho) rfl dX5_mostLoad_14 ?_
    refine tr_V.iload_n (i := 2) dX5_mostLoad_17 rfl rfl ?_
    refine tr_V.bd (fun a2 h3 => ?_)
    refine tr_V.iald h3 (shW_13 ho) dX5_mostLoad_18 ?_
    refine tr_V.mmax ml_X5_119 w_mmaxS in_J9 w_mmaxC (Nat.le_of_ble_eq_true rfl) (Nat.le_of_ble_eq_true rfl) dX5_mostLoad_19 ?_
    refine tr_V.istore_n (i := 1) dX5_mostLoad_22 rfl (Nat.le_of_ble_eq_true rfl) rfl ?_
    refine tr_V.iinc (cst := (1 : Int32)) dX5_mostLoad_23 rfl (by decide) rfl ?_
    refine tr_V.goto (tgt := 4) dX5_mostLoad_26 (by decide) ?_
    exact tr_V.to (fun h => h) ⟨rfl, rfl, rfl, trivial⟩
  · refine tr_V.iload_n (i := 1) dX5_mostLoad_29 rfl rfl ?_
    exact tr_V.iret dX5_mostLoad_30 rfl (fun h => h)
abbrev xX5_fewestTies : tr_X := (cX5_fewestTies, 3, RX5, (some .int), 2, shC, 81)
theorem cw_X5_fewestTies : Cond.code yX5_fewestTies cX5_fewestTies 3 (some .int) ∈ tr_tbl := tr_in 877 (by decide +kernel) rfl
theorem yk_X5_fewestTies : tr_yk yX5_fewestTies (xX5_fewestTies) 0 := ⟨cw_X5_fewestTies, in_X5, ⟨by decide +kernel, by decide +kernel, by decide +kernel⟩, Nat.le_of_ble_eq_true rfl⟩
theorem iv_X5_fewestTies : Cond.instanceMethod yX5_fewestTies ∈ tr_tbl ∧ Cond.selects (yX5_fewestTies).cls yX5_fewestTies yX5_fewestTies ∈ tr_tbl := ⟨tr_in 876 (by decide +kernel) rfl, tr_in 36 (by decide +kernel) rfl⟩
def mX5_fewestTies_l16 (o : Nat) (M : tr_M) (s2 : Int32 × Int32) : Option ((Int32 × Int32) ⊕ (Int32)) :=
  if s2.2 < (M.1 o 0) then (
    Option.bind (tr_rd 10 M (o + 12) s2.2) (fun a3 =>
    Option.bind (mJ6_bitCount_0f7a4 a3) (fun c5 =>
    some (.inl ((mJ9_min s2.1 c5), (s2.2 + (1 : Int32))))
    )
    )
  ) else (
    some (.inr s2.1)
  )
def mX5_fewestTies (o : Nat) (M : tr_M) : Option (Int32) :=
  Option.bind (show Option (Int32) from
    if (M.1 o 0) = 0 then (
      some (0 : Int32)
    ) else (
      some (10 : Int32)
    )
  ) (fun (v1 : Int32) =>
    tr_loop (mX5_fewestTies_l16 o M) (v1, (0 : Int32))
  )
set_option maxRecDepth 100000 in
set_option maxHeartbeats 4000000 in
theorem C_X5_fewestTies (o : Nat) (ho : tr_isW o) (M : tr_M) (r : Int32) (h : mX5_fewestTies o M = some r) : tr_I yX5_fewestTies (xX5_fewestTies) [.ref o] M (some (.int r)) M := by
  refine tr_I.of (Z := fun q : Int32 => (some (.int r) : Option Value) = some (.int q) ∧ M = M) pn_X5 rfl gdC (Nat.le_of_ble_eq_true rfl) (fun Wt => ?_) h ⟨rfl, rfl⟩
  unfold mX5_fewestTies
  refine tr_V.aload_n (i := 0) dX5_fewestTies_0 rfl rfl ?_
  refine tr_V.getI fl_X5_9 (shW ho) rfl dX5_fewestTies_1 ?_
  refine tr_V.seq (τ := Int32) (pc' := 13) (L := fun v1 => [(0, some (.ref o))]) (S := fun v1 => [.int v1]) (Mf := fun v1 => M) ?_ ?_
  · refine tr_V.if_ne (tgt := 11) dX5_fewestTies_4 (by decide) ?_ ?_
    · refine tr_V.iconst (v := (0 : Int32)) dX5_fewestTies_7 (by decide) ?_
      refine tr_V.goto (tgt := 13) dX5_fewestTies_8 (by decide) ?_
      exact tr_V.to (fun h => h) ⟨rfl, trivial⟩
    · refine tr_V.bipush (v := (10 : Int32)) dX5_fewestTies_11 (by decide) ?_
      exact tr_V.to (fun h => h) ⟨rfl, trivial⟩
  · intro v1
    refine tr_V.istore_n (i := 1) dX5_fewestTies_13 rfl (Nat.le_of_ble_eq_true rfl) rfl ?_
    refine tr_V.iconst (v := (0 : Int32)) dX5_fewestTies_14 (by decide) ?_
    refine tr_V.istore_n (i := 2) dX5_fewestTies_15 rfl (Nat.le_of_ble_eq_true rfl) rfl ?_
    refine tr_V.loop (σ := Int32 × Int32) (step := mX5_fewestTies_l16 o M) (L := fun s2 => [(0, some (.ref o)), (1, some (.int s2.1)), (2, some (.int s2.2))]) (Mf := fun s2 => M) ?_ (v1, (0 : Int32)) ⟨rfl, rfl, rfl, trivial⟩
    intro s2
    refine tr_V.iload_n (i := 2) dX5_fewestTies_16 rfl rfl ?_
    refine tr_V.aload_n (i := 0) dX5_fewestTies_17 rfl rfl ?_
    refine tr_V.getI fl_X5_9 (shW ho) rfl dX5_fewestTies_18 ?_
    refine tr_V.icmp_ge (tgt := 44) dX5_fewestTies_21 (by decide) ?_ ?_
    · refine tr_V.iload_n (i := 1) dX5_fewestTies_24 rfl rfl ?_
      refine tr_V.aload_n (i := 0) dX5_fewestTies_25 rfl rfl ?_
      refine tr_V.getR (Nat.succ_pos _) fl_X5_26 (shW ho) rfl dX5_fewestTies_26 ?_
      refine tr_V.iload_n (i := 2) dX5_fewestTies_29 rfl rfl ?_
      refine tr_V.bd (fun a3 h4 => ?_)
      refine tr_V.iald h4 (shW_12 ho) dX5_fewestTies_30 ?_
      refine tr_V.bd (fun c5 h6 => ?_)
      refine tr_V.callS (C_J6_bitCount_0f7a4 shC 81 gdC a3 M _ h6) yk_J6_bitCount_0f7a4 sc_J6_bitCount_0f7a4 ml_X5_73 ⟨rfl, Nat.le_of_ble_eq_true rfl⟩ rfl (Nat.le_of_ble_eq_true rfl) rfl dX5_fewestTies_31 ?_
      refine tr_V.mmin ml_X5_89 w_mminS in_J9 w_mminC (Nat.le_of_ble_eq_true rfl) (Nat.le_of_ble_eq_true rfl) dX5_fewestTies_34 ?_
      refine tr_V.istore_n (i := 1) dX5_fewestTies_37 rfl (Nat.le_of_ble_eq_true rfl) rfl ?_
      refine tr_V.iinc (cst := (1 : Int32)) dX5_fewestTies_38 rfl (by decide) rfl ?_
      refine tr_V.goto (tgt := 16) dX5_fewestTies_41 (by decide) ?_
      exact tr_V.to (fun h => h) ⟨rfl, rfl, rfl, trivial⟩
    · refine tr_V.iload_n (i := 1) dX5_fewestTies_44 rfl rfl ?_
      exact tr_V.iret dX5_fewestTies_45 rfl (fun h => h)
abbrev xX5_groupOf : tr_X := (cX5_groupOf, 6, RX5, (some .int), 1, shC, 81)
theorem cw_X5_groupOf : Cond.code yX5_groupOf cX5_groupOf 6 (some .int) ∈ tr_tbl := tr_in 885 (by decide +kernel) rfl
theorem yk_X5_groupOf : tr_yk yX5_groupOf (xX5_groupOf) 1 := ⟨cw_X5_groupOf, in_X5, ⟨by decide +kernel, by decide +kernel, by decide +kernel⟩, Nat.le_of_ble_eq_true rfl⟩
theorem iv_X5_groupOf : Cond.instanceMethod yX5_groupOf ∈ tr_tbl ∧ Cond.selects (yX5_groupOf).cls yX5_groupOf yX5_groupOf ∈ tr_tbl := ⟨tr_in 884 (by decide +kernel) rfl, tr_in 38 (by decide +kernel) rfl⟩
def mX5_groupOf_l20 (o : Nat) (M : tr_M) (s1 : Int32 × Int32) (s2 : Int32 × Int32) : Option ((Int32 × Int32) ⊕ ((Int32 × Int32) ⊕ (Int32))) :=
  if s2.2 < (M.1 o 0) then (
    if ((s1.1 >>> (s2.2 &&& 31)) &&& (1 : Int32)) = 0 then (
      some (.inl (s2.1, (s2.2 + (1 : Int32))))
    ) else (
      Option.bind (tr_rd 10 M (o + 12) s2.2) (fun a3 =>
      some (.inl ((s2.1 ||| a3), (s2.2 + (1 : Int32))))
      )
    )
  ) else (
    some (.inr (.inl (s2.1, (s1.2 + (1 : Int32)))))
  )
def mX5_groupOf_l6 (o : Nat) (M : tr_M) (s1 : Int32 × Int32) : Option ((Int32 × Int32) ⊕ (Int32)) :=
  if s1.2 < (M.1 o 0) then (
    tr_loop (mX5_groupOf_l20 o M s1) (s1.1, (0 : Int32))
  ) else (
    some (.inr s1.1)
  )
def mX5_groupOf (o : Nat) (p1 : Int32) (M : tr_M) : Option (Int32) :=
  tr_loop (mX5_groupOf_l6 o M) (((1 : Int32) <<< (p1 &&& 31)), (0 : Int32))
set_option maxRecDepth 100000 in
set_option maxHeartbeats 4000000 in
theorem C_X5_groupOf (o : Nat) (ho : tr_isW o) (p1 : Int32) (M : tr_M) (r : Int32) (h : mX5_groupOf o p1 M = some r) : tr_I yX5_groupOf (xX5_groupOf) [.ref o, .int p1] M (some (.int r)) M := by
  refine tr_I.of (Z := fun q : Int32 => (some (.int r) : Option Value) = some (.int q) ∧ M = M) pn_X5 rfl gdC (Nat.le_of_ble_eq_true rfl) (fun Wt => ?_) h ⟨rfl, rfl⟩
  unfold mX5_groupOf
  refine tr_V.iconst (v := (1 : Int32)) dX5_groupOf_0 (by decide) ?_
  refine tr_V.iload_n (i := 1) dX5_groupOf_1 rfl rfl ?_
  refine tr_V.ishl dX5_groupOf_2 ?_
  refine tr_V.istore_n (i := 2) dX5_groupOf_3 rfl (Nat.le_of_ble_eq_true rfl) rfl ?_
  refine tr_V.iconst (v := (0 : Int32)) dX5_groupOf_4 (by decide) ?_
  refine tr_V.istore_n (i := 3) dX5_groupOf_5 rfl (Nat.le_of_ble_eq_true rfl) rfl ?_
  refine tr_V.loop (σ := Int32 × Int32) (step := mX5_groupOf_l6 o M) (L := fun s1 => [(0, some (.ref o)), (2, some (.int s1.1)), (3, some (.int s1.2))]) (Mf := fun s1 => M) ?_ (((1 : Int32) <<< (p1 &&& 31)), (0 : Int32)) ⟨rfl, rfl, rfl, trivial⟩
  intro s1
  refine tr_V.iload_n (i := 3) dX5_groupOf_6 rfl rfl ?_
  refine tr_V.aload_n (i := 0) dX5_groupOf_7 rfl rfl ?_
  refine tr_V.getI fl_X5_9 (shW ho) rfl dX5_groupOf_8 ?_
  refine tr_V.icmp_ge (tgt := 65) dX5_groupOf_11 (by decide) ?_ ?_
  · refine tr_V.iload_n (i := 2) dX5_groupOf_14 rfl rfl ?_
    refine tr_V.istore (i := 4) dX5_groupOf_15 (Nat.le_of_ble_eq_true rfl) rfl ?_
    refine tr_V.iconst (v := (0 : Int32)) dX5_groupOf_17 (by decide) ?_
    refine tr_V.istore (i := 5) dX5_groupOf_18 (Nat.le_of_ble_eq_true rfl) rfl ?_
    refine tr_V.loop (σ := Int32 × Int32) (step := mX5_groupOf_l20 o M s1) (L := fun s2 => [(0, some (.ref o)), (2, some (.int s1.1)), (3, some (.int s1.2)), (4, some (.int s2.1)), (5, some (.int s2.2))]) (Mf := fun s2 => M) ?_ (s1.1, (0 : Int32)) ⟨rfl, rfl, rfl, rfl, rfl, trivial⟩
    intro s2
    refine tr_V.iload dX5_groupOf_20 rfl ?_
    refine tr_V.aload_n (i := 0) dX5_groupOf_22 rfl rfl ?_
    refine tr_V.getI fl_X5_9 (shW ho) rfl dX5_groupOf_23 ?_
    refine tr_V.icmp_ge (tgt := 56) dX5_groupOf_26 (by decide) ?_ ?_
    · refine tr_V.iload_n (i := 2) dX5_groupOf_29 rfl rfl ?_
      refine tr_V.iload dX5_groupOf_30 rfl ?_
      refine tr_V.ishr dX5_groupOf_32 ?_
      refine tr_V.iconst (v := (1 : Int32)) dX5_groupOf_33 (by decide) ?_
      refine tr_V.iand dX5_groupOf_34 ?_
      refine tr_V.if_eq (tgt := 50) dX5_groupOf_35 (by decide) ?_ ?_
      · refine tr_V.iinc (cst := (1 : Int32)) dX5_groupOf_50 rfl (by decide) rfl ?_
        refine tr_V.goto (tgt := 20) dX5_groupOf_53 (by decide) ?_
        exact tr_V.to (fun h => h) ⟨rfl, rfl, rfl, rfl, rfl, trivial⟩
      · refine tr_V.iload dX5_groupOf_38 rfl ?_
        refine tr_V.aload_n (i := 0) dX5_groupOf_40 rfl rfl ?_
        refine tr_V.getR (Nat.succ_pos _) fl_X5_26 (shW ho) rfl dX5_groupOf_41 ?_
        refine tr_V.iload dX5_groupOf_44 rfl ?_
        refine tr_V.bd (fun a3 h4 => ?_)
        refine tr_V.iald h4 (shW_12 ho) dX5_groupOf_46 ?_
        refine tr_V.ior dX5_groupOf_47 ?_
        refine tr_V.istore (i := 4) dX5_groupOf_48 (Nat.le_of_ble_eq_true rfl) rfl ?_
        refine tr_V.iinc (cst := (1 : Int32)) dX5_groupOf_50 rfl (by decide) rfl ?_
        refine tr_V.goto (tgt := 20) dX5_groupOf_53 (by decide) ?_
        exact tr_V.to (fun h => h) ⟨rfl, rfl, rfl, rfl, rfl, trivial⟩
    · refine tr_V.iload dX5_groupOf_56 rfl ?_
      refine tr_V.istore_n (i := 2) dX5_groupOf_58 rfl (Nat.le_of_ble_eq_true rfl) rfl ?_
      refine tr_V.iinc (cst := (1 : Int32)) dX5_groupOf_59 rfl (by decide) rfl ?_
      refine tr_V.goto (tgt := 6) dX5_groupOf_62 (by decide) ?_
      exact tr_V.to (fun h => h) ⟨rfl, rfl, rfl, trivial⟩
  · refine tr_V.iload_n (i := 2) dX5_groupOf_65 rfl rfl ?_
    exact tr_V.iret dX5_groupOf_66 rfl (fun h => h)
abbrev xX5_groups : tr_X := (cX5_groups, 4, RX5, (some .int), 2, shC, 81)
theorem cw_X5_groups : Cond.code yX5_groups cX5_groups 4 (some .int) ∈ tr_tbl := tr_in 881 (by decide +kernel) rfl
theorem yk_X5_groups : tr_yk yX5_groups (xX5_groups) 0 := ⟨cw_X5_groups, in_X5, ⟨by decide +kernel, by decide +kernel, by decide +kernel⟩, Nat.le_of_ble_eq_true rfl⟩
theorem iv_X5_groups : Cond.instanceMethod yX5_groups ∈ tr_tbl ∧ Cond.selects (yX5_groups).cls yX5_groups yX5_groups ∈ tr_tbl := ⟨tr_in 880 (by decide +kernel) rfl, tr_in 37 (by decide +kernel) rfl⟩
def mX5_groups_l9 (o : Nat) (M : tr_M) (s3 : Int32 × Int32 × Int32) : Option ((Int32 × Int32 × Int32) ⊕ (Int32)) :=
  if s3.2.2 < (M.1 o 0) then (
    if ((s3.1 >>> (s3.2.2 &&& 31)) &&& (1 : Int32)) = 0 then (
      some (.inl (s3.1, s3.2.1, (s3.2.2 + (1 : Int32))))
    ) else (
      Option.bind (mX5_groupOf o s3.2.2 M) (fun c4 =>
      some (.inl ((s3.1 &&& (c4 ^^^ (-1 : Int32))), (s3.2.1 + (1 : Int32)), (s3.2.2 + (1 : Int32))))
      )
    )
  ) else (
    some (.inr s3.2.1)
  )
def mX5_groups (o : Nat) (M : tr_M) : Option (Int32) :=
  tr_loop (mX5_groups_l9 o M) ((mX5_everything o M), (0 : Int32), (0 : Int32))
set_option maxRecDepth 100000 in
set_option maxHeartbeats 4000000 in
theorem C_X5_groups (o : Nat) (ho : tr_isW o) (M : tr_M) (r : Int32) (h : mX5_groups o M = some r) : tr_I yX5_groups (xX5_groups) [.ref o] M (some (.int r)) M := by
  refine tr_I.of (Z := fun q : Int32 => (some (.int r) : Option Value) = some (.int q) ∧ M = M) pn_X5 rfl gdC (Nat.le_of_ble_eq_true rfl) (fun Wt => ?_) h ⟨rfl, rfl⟩
  unfold mX5_groups
  refine tr_V.aload_n (i := 0) dX5_groups_0 rfl rfl ?_
  refine tr_V.callV (C_X5_everything o ho M) yk_X5_everything iv_X5_everything ml_X5_95 (shW ho) rfl ⟨rfl, Nat.le_of_ble_eq_true rfl⟩ rfl (Nat.le_of_ble_eq_true rfl) rfl dX5_groups_1 ?_
  refine tr_V.istore_n (i := 1) dX5_groups_4 rfl (Nat.le_of_ble_eq_true rfl) rfl ?_
  refine tr_V.iconst (v := (0 : Int32)) dX5_groups_5 (by decide) ?_
  refine tr_V.istore_n (i := 2) dX5_groups_6 rfl (Nat.le_of_ble_eq_true rfl) rfl ?_
  refine tr_V.iconst (v := (0 : Int32)) dX5_groups_7 (by decide) ?_
  refine tr_V.istore_n (i := 3) dX5_groups_8 rfl (Nat.le_of_ble_eq_true rfl) rfl ?_
  refine tr_V.loop (σ := Int32 × Int32 × Int32) (step := mX5_groups_l9 o M) (L := fun s3 => [(0, some (.ref o)), (1, some (.int s3.1)), (2, some (.int s3.2.1)), (3, some (.int s3.2.2))]) (Mf := fun s3 => M) ?_ ((mX5_everything o M), (0 : Int32), (0 : Int32)) ⟨rfl, rfl, rfl, rfl, trivial⟩
  intro s3
  refine tr_V.iload_n (i := 3) dX5_groups_9 rfl rfl ?_
  refine tr_V.aload_n (i := 0) dX5_groups_10 rfl rfl ?_
  refine tr_V.getI fl_X5_9 (shW ho) rfl dX5_groups_11 ?_
  refine tr_V.icmp_ge (tgt := 44) dX5_groups_14 (by decide) ?_ ?_
  · refine tr_V.iload_n (i := 1) dX5_groups_17 rfl rfl ?_
    refine tr_V.iload_n (i := 3) dX5_groups_18 rfl rfl ?_
    refine tr_V.ishr dX5_groups_19 ?_
    refine tr_V.iconst (v := (1 : Int32)) dX5_groups_20 (by decide) ?_
    refine tr_V.iand dX5_groups_21 ?_
    refine tr_V.if_eq (tgt := 38) dX5_groups_22 (by decide) ?_ ?_
    · refine tr_V.iinc (cst := (1 : Int32)) dX5_groups_38 rfl (by decide) rfl ?_
      refine tr_V.goto (tgt := 9) dX5_groups_41 (by decide) ?_
      exact tr_V.to (fun h => h) ⟨rfl, rfl, rfl, rfl, trivial⟩
    · refine tr_V.iload_n (i := 1) dX5_groups_25 rfl rfl ?_
      refine tr_V.aload_n (i := 0) dX5_groups_26 rfl rfl ?_
      refine tr_V.iload_n (i := 3) dX5_groups_27 rfl rfl ?_
      refine tr_V.bd (fun c4 h5 => ?_)
      refine tr_V.callV (C_X5_groupOf o ho s3.2.2 M _ h5) yk_X5_groupOf iv_X5_groupOf ml_X5_140 (shW ho) rfl ⟨rfl, Nat.le_of_ble_eq_true rfl⟩ rfl (Nat.le_of_ble_eq_true rfl) rfl dX5_groups_28 ?_
      refine tr_V.iconst (v := (-1 : Int32)) dX5_groups_31 (by decide) ?_
      refine tr_V.ixor dX5_groups_32 ?_
      refine tr_V.iand dX5_groups_33 ?_
      refine tr_V.istore_n (i := 1) dX5_groups_34 rfl (Nat.le_of_ble_eq_true rfl) rfl ?_
      refine tr_V.iinc (cst := (1 : Int32)) dX5_groups_35 rfl (by decide) rfl ?_
      refine tr_V.iinc (cst := (1 : Int32)) dX5_groups_38 rfl (by decide) rfl ?_
      refine tr_V.goto (tgt := 9) dX5_groups_41 (by decide) ?_
      exact tr_V.to (fun h => h) ⟨rfl, rfl, rfl, rfl, trivial⟩
  · refine tr_V.iload_n (i := 2) dX5_groups_44 rfl rfl ?_
    exact tr_V.iret dX5_groups_45 rfl (fun h => h)
abbrev xX5_mostTies : tr_X := (cX5_mostTies, 3, RX5, (some .int), 2, shC, 81)
theorem cw_X5_mostTies : Cond.code yX5_mostTies cX5_mostTies 3 (some .int) ∈ tr_tbl := tr_in 889 (by decide +kernel) rfl
theorem yk_X5_mostTies : tr_yk yX5_mostTies (xX5_mostTies) 0 := ⟨cw_X5_mostTies, in_X5, ⟨by decide +kernel, by decide +kernel, by decide +kernel⟩, Nat.le_of_ble_eq_true rfl⟩
theorem iv_X5_mostTies : Cond.instanceMethod yX5_mostTies ∈ tr_tbl ∧ Cond.selects (yX5_mostTies).cls yX5_mostTies yX5_mostTies ∈ tr_tbl := ⟨tr_in 888 (by decide +kernel) rfl, tr_in 39 (by decide +kernel) rfl⟩
def mX5_mostTies_l4 (o : Nat) (M : tr_M) (s1 : Int32 × Int32) : Option ((Int32 × Int32) ⊕ (Int32)) :=
  if s1.2 < (M.1 o 0) then (
    Option.bind (tr_rd 10 M (o + 12) s1.2) (fun a2 =>
    Option.bind (mJ6_bitCount_0f7a4 a2) (fun c4 =>
    some (.inl ((mJ9_max s1.1 c4), (s1.2 + (1 : Int32))))
    )
    )
  ) else (
    some (.inr s1.1)
  )
def mX5_mostTies (o : Nat) (M : tr_M) : Option (Int32) :=
  tr_loop (mX5_mostTies_l4 o M) ((0 : Int32), (0 : Int32))
set_option maxRecDepth 100000 in
set_option maxHeartbeats 4000000 in
theorem C_X5_mostTies (o : Nat) (ho : tr_isW o) (M : tr_M) (r : Int32) (h : mX5_mostTies o M = some r) : tr_I yX5_mostTies (xX5_mostTies) [.ref o] M (some (.int r)) M := by
  refine tr_I.of (Z := fun q : Int32 => (some (.int r) : Option Value) = some (.int q) ∧ M = M) pn_X5 rfl gdC (Nat.le_of_ble_eq_true rfl) (fun Wt => ?_) h ⟨rfl, rfl⟩
  unfold mX5_mostTies
  refine tr_V.iconst (v := (0 : Int32)) dX5_mostTies_0 (by decide) ?_
  refine tr_V.istore_n (i := 1) dX5_mostTies_1 rfl (Nat.le_of_ble_eq_true rfl) rfl ?_
  refine tr_V.iconst (v := (0 : Int32)) dX5_mostTies_2 (by decide) ?_
  refine tr_V.istore_n (i := 2) dX5_mostTies_3 rfl (Nat.le_of_ble_eq_true rfl) rfl ?_
  refine tr_V.loop (σ := Int32 × Int32) (step := mX5_mostTies_l4 o M) (L := fun s1 => [(0, some (.ref o)), (1, some (.int s1.1)), (2, some (.int s1.2))]) (Mf := fun s1 => M) ?_ ((0 : Int32), (0 : Int32)) ⟨rfl, rfl, rfl, trivial⟩
  intro s1
  refine tr_V.iload_n (i := 2) dX5_mostTies_4 rfl rfl ?_
  refine tr_V.aload_n (i := 0) dX5_mostTies_5 rfl rfl ?_
  refine tr_V.getI fl_X5_9 (shW ho) rfl dX5_mostTies_6 ?_
  refine tr_V.icmp_ge (tgt := 32) dX5_mostTies_9 (by decide) ?_ ?_
  · refine tr_V.iload_n (i := 1) dX5_mostTies_12 rfl rfl ?_
    refine tr_V.aload_n (i := 0) dX5_mostTies_13 rfl rfl ?_
    refine tr_V.getR (Nat.succ_pos _) fl_X5_26 (shW ho) rfl dX5_mostTies_14 ?_
    refine tr_V.iload_n (i := 2) dX5_mostTies_17 rfl rfl ?_
    refine tr_V.bd (fun a2 h3 => ?_)
    refine tr_V.iald h3 (shW_12 ho) dX5_mostTies_18 ?_
    refine tr_V.bd (fun c4 h5 => ?_)
    refine tr_V.callS (C_J6_bitCount_0f7a4 shC 81 gdC a2 M _ h5) yk_J6_bitCount_0f7a4 sc_J6_bitCount_0f7a4 ml_X5_73 ⟨rfl, Nat.le_of_ble_eq_true rfl⟩ rfl (Nat.le_of_ble_eq_true rfl) rfl dX5_mostTies_19 ?_
    refine tr_V.mmax ml_X5_119 w_mmaxS in_J9 w_mmaxC (Nat.le_of_ble_eq_true rfl) (Nat.le_of_ble_eq_true rfl) dX5_mostTies_22 ?_
    refine tr_V.istore_n (i := 1) dX5_mostTies_25 rfl (Nat.le_of_ble_eq_true rfl) rfl ?_
    refine tr_V.iinc (cst := (1 : Int32)) dX5_mostTies_26 rfl (by decide) rfl ?_
    refine tr_V.goto (tgt := 4) dX5_mostTies_29 (by decide) ?_
    exact tr_V.to (fun h => h) ⟨rfl, rfl, rfl, trivial⟩
  · refine tr_V.iload_n (i := 1) dX5_mostTies_32 rfl rfl ?_
    exact tr_V.iret dX5_mostTies_33 rfl (fun h => h)
abbrev xX5_boundOf : tr_X := (cX5_boundOf, 2, RX5, (some .int), 3, shC, 81)
theorem cw_X5_boundOf : Cond.code yX5_boundOf cX5_boundOf 2 (some .int) ∈ tr_tbl := tr_in 862 (by decide +kernel) rfl
theorem yk_X5_boundOf : tr_yk yX5_boundOf (xX5_boundOf) 1 := ⟨cw_X5_boundOf, in_X5, ⟨by decide +kernel, by decide +kernel, by decide +kernel⟩, Nat.le_of_ble_eq_true rfl⟩
theorem iv_X5_boundOf : Cond.instanceMethod yX5_boundOf ∈ tr_tbl ∧ Cond.selects (yX5_boundOf).cls yX5_boundOf yX5_boundOf ∈ tr_tbl := ⟨tr_in 860 (by decide +kernel) rfl, tr_in 861 (by decide +kernel) rfl⟩
def mX5_boundOf (o : Nat) (p1 : Int32) (M : tr_M) : Option (Int32) :=
  if p1 = (0 : Int32) then (
    Option.bind (mX5_nearestProducts o M) (fun c1 =>
    some (mX5_halfCutUp c1)
    )
  ) else (
  if p1 = (1 : Int32) then (
    Option.bind (mX5_mostLoad o M) (fun c6 =>
    some (mX5_halfCutUp c6)
    )
  ) else (
  if p1 = (2 : Int32) then (
    Option.bind (mX5_fewestTies o M) (fun c11 =>
    some c11
    )
  ) else (
  if p1 = (3 : Int32) then (
    Option.bind (mX5_groups o M) (fun c14 =>
    some ((M.1 o 0) - c14)
    )
  ) else (
    Option.bind (mX5_mostTies o M) (fun c17 =>
    some (mX5_halfCutUp c17)
    )
  ))))
set_option maxRecDepth 100000 in
set_option maxHeartbeats 4000000 in
theorem C_X5_boundOf (o : Nat) (ho : tr_isW o) (p1 : Int32) (M : tr_M) (r : Int32) (h : mX5_boundOf o p1 M = some r) : tr_I yX5_boundOf (xX5_boundOf) [.ref o, .int p1] M (some (.int r)) M := by
  refine tr_I.of (Z := fun q : Int32 => (some (.int r) : Option Value) = some (.int q) ∧ M = M) pn_X5 rfl gdC (Nat.le_of_ble_eq_true rfl) (fun Wt => ?_) h ⟨rfl, rfl⟩
  unfold mX5_boundOf
  refine tr_V.iload_n (i := 1) dX5_boundOf_0 rfl rfl ?_
  refine tr_V.case (k := (0 : Int32)) (fun c5 => ?_) (fun c5 => ?_)
  · refine tr_V.tableIn (tgt := 32) dX5_boundOf_1 c5 (by decide) rfl (by decide) ?_
    refine tr_V.aload_n (i := 0) dX5_boundOf_32 rfl rfl ?_
    refine tr_V.bd (fun c1 h2 => ?_)
    refine tr_V.callV (C_X5_nearestProducts o ho M _ h2) yk_X5_nearestProducts iv_X5_nearestProducts ml_X5_122 (shW ho) rfl ⟨rfl, Nat.le_of_ble_eq_true rfl⟩ rfl (Nat.le_of_ble_eq_true rfl) rfl dX5_boundOf_33 ?_
    refine tr_V.callS (C_X5_halfCutUp c1 M) yk_X5_halfCutUp sc_X5_halfCutUp ml_X5_125 ⟨rfl, Nat.le_of_ble_eq_true rfl⟩ rfl (Nat.le_of_ble_eq_true rfl) rfl dX5_boundOf_36 ?_
    exact tr_V.iret dX5_boundOf_39 rfl (fun h => h)
  · refine tr_V.case (k := (1 : Int32)) (fun c10 => ?_) (fun c10 => ?_)
    · refine tr_V.tableIn (tgt := 40) dX5_boundOf_1 c10 (by decide) rfl (by decide) ?_
      refine tr_V.aload_n (i := 0) dX5_boundOf_40 rfl rfl ?_
      refine tr_V.bd (fun c6 h7 => ?_)
      refine tr_V.callV (C_X5_mostLoad o ho M _ h7) yk_X5_mostLoad iv_X5_mostLoad ml_X5_128 (shW ho) rfl ⟨rfl, Nat.le_of_ble_eq_true rfl⟩ rfl (Nat.le_of_ble_eq_true rfl) rfl dX5_boundOf_41 ?_
      refine tr_V.callS (C_X5_halfCutUp c6 M) yk_X5_halfCutUp sc_X5_halfCutUp ml_X5_125 ⟨rfl, Nat.le_of_ble_eq_true rfl⟩ rfl (Nat.le_of_ble_eq_true rfl) rfl dX5_boundOf_44 ?_
      exact tr_V.iret dX5_boundOf_47 rfl (fun h => h)
    · refine tr_V.case (k := (2 : Int32)) (fun c13 => ?_) (fun c13 => ?_)
      · refine tr_V.tableIn (tgt := 48) dX5_boundOf_1 c13 (by decide) rfl (by decide) ?_
        refine tr_V.aload_n (i := 0) dX5_boundOf_48 rfl rfl ?_
        refine tr_V.bd (fun c11 h12 => ?_)
        refine tr_V.callV (C_X5_fewestTies o ho M _ h12) yk_X5_fewestTies iv_X5_fewestTies ml_X5_131 (shW ho) rfl ⟨rfl, Nat.le_of_ble_eq_true rfl⟩ rfl (Nat.le_of_ble_eq_true rfl) rfl dX5_boundOf_49 ?_
        exact tr_V.iret dX5_boundOf_52 rfl (fun h => h)
      · refine tr_V.case (k := (3 : Int32)) (fun c16 => ?_) (fun c16 => ?_)
        · refine tr_V.tableIn (tgt := 53) dX5_boundOf_1 c16 (by decide) rfl (by decide) ?_
          refine tr_V.aload_n (i := 0) dX5_boundOf_53 rfl rfl ?_
          refine tr_V.getI fl_X5_9 (shW ho) rfl dX5_boundOf_54 ?_
          refine tr_V.aload_n (i := 0) dX5_boundOf_57 rfl rfl ?_
          refine tr_V.bd (fun c14 h15 => ?_)
          refine tr_V.callV (C_X5_groups o ho M _ h15) yk_X5_groups iv_X5_groups ml_X5_134 (shW ho) rfl ⟨rfl, Nat.le_of_ble_eq_true rfl⟩ rfl (Nat.le_of_ble_eq_true rfl) rfl dX5_boundOf_58 ?_
          refine tr_V.isub dX5_boundOf_61 ?_
          exact tr_V.iret dX5_boundOf_62 rfl (fun h => h)
        · refine tr_V.tableOut (tgt := 63) dX5_boundOf_1 (by have := lv_neT c5 (a := 0) (by decide); have := lv_neT c10 (a := 1) (by decide); have := lv_neT c13 (a := 2) (by decide); have := lv_neT c16 (a := 3) (by decide); omega) (by decide) ?_
          refine tr_V.aload_n (i := 0) dX5_boundOf_63 rfl rfl ?_
          refine tr_V.bd (fun c17 h18 => ?_)
          refine tr_V.callV (C_X5_mostTies o ho M _ h18) yk_X5_mostTies iv_X5_mostTies ml_X5_137 (shW ho) rfl ⟨rfl, Nat.le_of_ble_eq_true rfl⟩ rfl (Nat.le_of_ble_eq_true rfl) rfl dX5_boundOf_64 ?_
          refine tr_V.callS (C_X5_halfCutUp c17 M) yk_X5_halfCutUp sc_X5_halfCutUp ml_X5_125 ⟨rfl, Nat.le_of_ble_eq_true rfl⟩ rfl (Nat.le_of_ble_eq_true rfl) rfl dX5_boundOf_67 ?_
          exact tr_V.iret dX5_boundOf_70 rfl (fun h => h)
