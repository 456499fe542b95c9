abbrev xX4_bestOf : tr_X := (cX4_bestOf, 6, RX4, (some .int), 3, shC, 81)
theorem cw_X4_bestOf : Cond.code yX4_bestOf cX4_bestOf 6 (some .int) ∈ tr_tbl := tr_in 737 (by decide +kernel) rfl
theorem yk_X4_bestOf : tr_yk yX4_bestOf (xX4_bestOf) 2 := ⟨cw_X4_bestOf, in_X4, ⟨by decide +kernel, by decide +kernel, by decide +kernel⟩, Nat.le_of_ble_eq_true rfl⟩
theorem iv_X4_bestOf : Cond.instanceMethod yX4_bestOf ∈ tr_tbl ∧ Cond.selects (yX4_bestOf).cls yX4_bestOf yX4_bestOf ∈ tr_tbl := ⟨tr_in 736 (by decide +kernel) rfl, tr_in 23 (by decide +kernel) rfl⟩
def mX4_bestOf_l27 (p1 : Int32) (M : tr_M) (c3 : Int32) (s6 : Int32 × Int32) : Option ((Int32 × Int32) ⊕ (Int32)) :=
  if s6.2 < (M.1 26 0) then (
    if ((c3 >>> (s6.2 &&& 31)) &&& (1 : Int32)) = 0 then (
      some (.inl (s6.1, (s6.2 + (1 : Int32))))
    ) else (
      Option.bind (tr_rd 10240 M 48 (mX4_stateOf (p1 ||| ((1 : Int32) <<< (s6.2 &&& 31))) s6.2)) (fun a9 =>
      some (.inl ((mJ9_min s6.1 a9), (s6.2 + (1 : Int32))))
      )
    )
  ) else (
    some (.inr s6.1)
  )
def mX4_bestOf (p1 : Int32) (p2 : Int32) (M : tr_M) : Option (Int32) :=
  if p1 = (mX5_everything 26 M) then (
    some (0 : Int32)
  ) else (
    Option.bind (mX4_nextOf p1 p2 M) (fun c3 =>
    Option.bind (show Option (Int32) from
      tr_loop (mX4_bestOf_l27 p1 M c3) ((268435456 : Int32), (0 : Int32))
    ) (fun (v5 : Int32) =>
      if v5 < (268435456 : Int32) then (
        if (M.1 25 11) = 0 then (
          Option.bind (tr_rd 1024 M 45 p1) (fun a11 =>
          some (mJ9_max v5 a11)
          )
        ) else (
          Option.bind (tr_rd 1024 M 45 p1) (fun a13 =>
          some (v5 + a13)
          )
        )
      ) else (
        some (268435456 : Int32)
      )
    )
    )
  )
set_option maxRecDepth 100000 in
set_option maxHeartbeats 4000000 in
theorem C_X4_bestOf (p1 : Int32) (p2 : Int32) (M : tr_M) (r : Int32) (h : mX4_bestOf p1 p2 M = some r) : tr_I yX4_bestOf (xX4_bestOf) [.ref 25, .int p1, .int p2] M (some (.int r)) M := by
  refine tr_I.of (Z := fun q : Int32 => (some (.int r) : Option Value) = some (.int q) ∧ M = M) pn_X4 rfl gdC (Nat.le_of_ble_eq_true rfl) (fun Wt => ?_) h ⟨rfl, rfl⟩
  unfold mX4_bestOf
  refine tr_V.iload_n (i := 1) dX4_bestOf_0 rfl rfl ?_
  refine tr_V.aload_n (i := 0) dX4_bestOf_1 rfl rfl ?_
  refine tr_V.getR (Nat.succ_pos _) fl_X4_12 shC_25 rfl dX4_bestOf_2 ?_
  refine tr_V.callV (C_X5_everything 26 isW_26 M) yk_X5_everything iv_X5_everything ml_X4_77 shC_26 rfl ⟨rfl, Nat.le_of_ble_eq_true rfl⟩ rfl (Nat.le_of_ble_eq_true rfl) rfl dX4_bestOf_5 ?_
  refine tr_V.icmp_ne (tgt := 13) dX4_bestOf_8 (by decide) ?_ ?_
  · refine tr_V.iconst (v := (0 : Int32)) dX4_bestOf_11 (by decide) ?_
    exact tr_V.iret dX4_bestOf_12 rfl (fun h => h)
  · refine tr_V.aload_n (i := 0) dX4_bestOf_13 rfl rfl ?_
    refine tr_V.iload_n (i := 1) dX4_bestOf_14 rfl rfl ?_
    refine tr_V.iload_n (i := 2) dX4_bestOf_15 rfl rfl ?_
    refine tr_V.bd (fun c3 h4 => ?_)
    refine tr_V.callV (C_X4_nextOf p1 p2 M _ h4) yk_X4_nextOf iv_X4_nextOf ml_X4_122 shC_25 rfl ⟨rfl, Nat.le_of_ble_eq_true rfl⟩ rfl (Nat.le_of_ble_eq_true rfl) rfl dX4_bestOf_16 ?_
    refine tr_V.istore_n (i := 3) dX4_bestOf_19 rfl (Nat.le_of_ble_eq_true rfl) rfl ?_
    refine tr_V.ldc ct_X4_70 dX4_bestOf_20 ?_
    refine tr_V.istore (i := 4) dX4_bestOf_22 (Nat.le_of_ble_eq_true rfl) rfl ?_
    refine tr_V.iconst (v := (0 : Int32)) dX4_bestOf_24 (by decide) ?_
    refine tr_V.istore (i := 5) dX4_bestOf_25 (Nat.le_of_ble_eq_true rfl) rfl ?_
    refine tr_V.seq (τ := Int32) (pc' := 77) (L := fun v5 => [(0, some (.ref 25)), (1, some (.int p1)), (4, some (.int v5))]) (S := fun v5 => []) (Mf := fun v5 => M) ?_ ?_
    · refine tr_V.loop (σ := Int32 × Int32) (step := mX4_bestOf_l27 p1 M c3) (L := fun s6 => [(0, some (.ref 25)), (1, some (.int p1)), (3, some (.int c3)), (4, some (.int s6.1)), (5, some (.int s6.2))]) (Mf := fun s6 => M) ?_ ((268435456 : Int32), (0 : Int32)) ⟨rfl, rfl, rfl, rfl, rfl, trivial⟩
      intro s6
      refine tr_V.iload dX4_bestOf_27 rfl ?_
      refine tr_V.aload_n (i := 0) dX4_bestOf_29 rfl rfl ?_
      refine tr_V.getR (Nat.succ_pos _) fl_X4_12 shC_25 rfl dX4_bestOf_30 ?_
      refine tr_V.getI fl_X4_96 shC_26 rfl dX4_bestOf_33 ?_
      refine tr_V.icmp_ge (tgt := 77) dX4_bestOf_36 (by decide) ?_ ?_
      · refine tr_V.iload_n (i := 3) dX4_bestOf_39 rfl rfl ?_
        refine tr_V.iload dX4_bestOf_40 rfl ?_
        refine tr_V.ishr dX4_bestOf_42 ?_
        refine tr_V.iconst (v := (1 : Int32)) dX4_bestOf_43 (by decide) ?_
        refine tr_V.iand dX4_bestOf_44 ?_
        refine tr_V.if_eq (tgt := 71) dX4_bestOf_45 (by decide) ?_ ?_
        · refine tr_V.iinc (cst := (1 : Int32)) dX4_bestOf_71 rfl (by decide) rfl ?_
          refine tr_V.goto (tgt := 27) dX4_bestOf_74 (by decide) ?_
          exact tr_V.to (fun h => h) ⟨rfl, rfl, rfl, rfl, rfl, trivial⟩
        · refine tr_V.iload dX4_bestOf_48 rfl ?_
          refine tr_V.aload_n (i := 0) dX4_bestOf_50 rfl rfl ?_
          refine tr_V.getR (Nat.succ_pos _) fl_X4_28 shC_25 rfl dX4_bestOf_51 ?_
          refine tr_V.iload_n (i := 1) dX4_bestOf_54 rfl rfl ?_
          refine tr_V.iconst (v := (1 : Int32)) dX4_bestOf_55 (by decide) ?_
          refine tr_V.iload dX4_bestOf_56 rfl ?_
          refine tr_V.ishl dX4_bestOf_58 ?_
          refine tr_V.ior dX4_bestOf_59 ?_
          refine tr_V.iload dX4_bestOf_60 rfl ?_
          refine tr_V.callS (C_X4_stateOf (p1 ||| ((1 : Int32) <<< (s6.2 &&& 31))) s6.2 M) yk_X4_stateOf sc_X4_stateOf ml_X4_89 ⟨rfl, Nat.le_of_ble_eq_true rfl⟩ rfl (Nat.le_of_ble_eq_true rfl) rfl dX4_bestOf_62 ?_
          refine tr_V.bd (fun a9 h10 => ?_)
          refine tr_V.iald h10 shC_48 dX4_bestOf_65 ?_
          refine tr_V.mmin ml_X4_125 w_mminS in_J9 w_mminC (Nat.le_of_ble_eq_true rfl) (Nat.le_of_ble_eq_true rfl) dX4_bestOf_66 ?_
          refine tr_V.istore (i := 4) dX4_bestOf_69 (Nat.le_of_ble_eq_true rfl) rfl ?_
          refine tr_V.iinc (cst := (1 : Int32)) dX4_bestOf_71 rfl (by decide) rfl ?_
          refine tr_V.goto (tgt := 27) dX4_bestOf_74 (by decide) ?_
          exact tr_V.to (fun h => h) ⟨rfl, rfl, rfl, rfl, rfl, trivial⟩
      · exact tr_V.to (fun h => h) ⟨rfl, rfl, rfl, trivial⟩
    · intro v5
      refine tr_V.iload dX4_bestOf_77 rfl ?_
      refine tr_V.ldc ct_X4_70 dX4_bestOf_79 ?_
      refine tr_V.icmp_lt (tgt := 87) dX4_bestOf_81 (by decide) ?_ ?_
      · refine tr_V.aload_n (i := 0) dX4_bestOf_87 rfl rfl ?_
        refine tr_V.getZ fl_X4_50 shC_25 rfl dX4_bestOf_88 ?_
        refine tr_V.if_eq (tgt := 106) dX4_bestOf_91 (by decide) ?_ ?_
        · refine tr_V.iload dX4_bestOf_106 rfl ?_
          refine tr_V.aload_n (i := 0) dX4_bestOf_108 rfl rfl ?_
          refine tr_V.getR (Nat.succ_pos _) fl_X4_18 shC_25 rfl dX4_bestOf_109 ?_
          refine tr_V.iload_n (i := 1) dX4_bestOf_112 rfl rfl ?_
          refine tr_V.bd (fun a11 h12 => ?_)
          refine tr_V.iald h12 shC_45 dX4_bestOf_113 ?_
          refine tr_V.mmax ml_X4_130 w_mmaxS in_J9 w_mmaxC (Nat.le_of_ble_eq_true rfl) (Nat.le_of_ble_eq_true rfl) dX4_bestOf_114 ?_
          exact tr_V.iret dX4_bestOf_117 rfl (fun h => h)
        · refine tr_V.iload dX4_bestOf_94 rfl ?_
          refine tr_V.aload_n (i := 0) dX4_bestOf_96 rfl rfl ?_
          refine tr_V.getR (Nat.succ_pos _) fl_X4_18 shC_25 rfl dX4_bestOf_97 ?_
          refine tr_V.iload_n (i := 1) dX4_bestOf_100 rfl rfl ?_
          refine tr_V.bd (fun a13 h14 => ?_)
          refine tr_V.iald h14 shC_45 dX4_bestOf_101 ?_
          refine tr_V.iadd dX4_bestOf_102 ?_
          refine tr_V.goto (tgt := 117) dX4_bestOf_103 (by decide) ?_
          exact tr_V.iret dX4_bestOf_117 rfl (fun h => h)
      · refine tr_V.ldc ct_X4_70 dX4_bestOf_84 ?_
        exact tr_V.iret dX4_bestOf_86 rfl (fun h => h)
abbrev xX4_fillBest : tr_X := (cX4_fillBest, 4, RX4, (Option.none : Option Jvm.ClassFile.FieldType), 4, shC, 81)
theorem cw_X4_fillBest : Cond.code yX4_fillBest cX4_fillBest 4 (Option.none : Option Jvm.ClassFile.FieldType) ∈ tr_tbl := tr_in 717 (by decide +kernel) rfl
theorem yk_X4_fillBest : tr_yk yX4_fillBest (xX4_fillBest) 1 := ⟨cw_X4_fillBest, in_X4, ⟨by decide +kernel, by decide +kernel, by decide +kernel⟩, Nat.le_of_ble_eq_true rfl⟩
theorem iv_X4_fillBest : Cond.instanceMethod yX4_fillBest ∈ tr_tbl ∧ Cond.selects (yX4_fillBest).cls yX4_fillBest yX4_fillBest ∈ tr_tbl := ⟨tr_in 716 (by decide +kernel) rfl, tr_in 20 (by decide +kernel) rfl⟩
def mX4_fillBest_l42 (s11 : Int32 × tr_M) (s12 : Int32 × tr_M) : Option ((Int32 × tr_M) ⊕ ((Int32 × tr_M) ⊕ (tr_M))) :=
  if s12.1 < (mX4_lastsOf s11.1 s12.2) then (
    if (mX4_isState s11.1 s12.1) = 0 then (
      some (.inl ((s12.1 + (1 : Int32)), s12.2))
    ) else (
      Option.bind (mX4_bestOf s11.1 s12.1 s12.2) (fun c19 =>
      Option.bind (tr_wr 10240 s12.2 48 (mX4_stateOf s11.1 s12.1) c19) (fun M21 =>
      some (.inl ((s12.1 + (1 : Int32)), M21))
      )
      )
    )
  ) else (
    Option.bind (some (s11.1 + (-1 : Int32))) (fun x23 =>
    some (.inr (.inl (x23, s12.2)))
    )
  )
def mX4_fillBest_l36  (s11 : Int32 × tr_M) : Option ((Int32 × tr_M) ⊕ (tr_M)) :=
  if s11.1 < 0 then (
    some (.inr s11.2)
  ) else (
    tr_loop (mX4_fillBest_l42 s11) ((0 : Int32), s11.2)
  )
def mX4_fillBest (p1 : Int32) (M : tr_M) : Option (tr_M) :=
  Option.bind (show Option (Int32) from
    if p1 = 0 then (
      some (1 : Int32)
    ) else (
      if p1 = (3 : Int32) then (
        some (1 : Int32)
      ) else (
        some (0 : Int32)
      )
    )
  ) (fun (v1 : Int32) =>
    Option.bind (tr_gd (v1 &&& 1 == v1)) (fun _ =>
    Option.bind (some (tr_st M 25 11 v1)) (fun M2 =>
    Option.bind (some (tr_st M2 25 12 (0 : Int32))) (fun M5 =>
    Option.bind (mX4_fillGapCosts p1 M5) (fun c7 =>
    tr_loop (mX4_fillBest_l36) ((mX5_everything 26 c7), c7)
    )
    )
    )
    )
  )
set_option maxRecDepth 100000 in
set_option maxHeartbeats 4000000 in
theorem C_X4_fillBest (p1 : Int32) (M M' : tr_M) (h : mX4_fillBest p1 M = some M') : tr_I yX4_fillBest (xX4_fillBest) [.ref 25, .int p1] M none M' := by
  refine tr_I.of (Z := fun q : tr_M => (none : Option Value) = none ∧ M' = q) pn_X4 rfl gdC (Nat.le_of_ble_eq_true rfl) (fun Wt => ?_) h ⟨rfl, rfl⟩
  unfold mX4_fillBest
  refine tr_V.aload_n (i := 0) dX4_fillBest_0 rfl rfl ?_
  refine tr_V.iload_n (i := 1) dX4_fillBest_1 rfl rfl ?_
  refine tr_V.seq (τ := Int32) (pc' := 15) (L := fun v1 => [(0, some (.ref 25)), (1, some (.int p1))]) (S := fun v1 => [.int v1, .ref 25]) (Mf := fun v1 => M) ?_ ?_
  · refine tr_V.if_eq (tgt := 10) dX4_fillBest_2 (by decide) ?_ ?_
    · refine tr_V.iconst (v := (1 : Int32)) dX4_fillBest_10 (by decide) ?_
      refine tr_V.goto (tgt := 15) dX4_fillBest_11 (by decide) ?_
      exact tr_V.to (fun h => h) ⟨rfl, rfl, trivial⟩
    · refine tr_V.iload_n (i := 1) dX4_fillBest_5 rfl rfl ?_
      refine tr_V.iconst (v := (3 : Int32)) dX4_fillBest_6 (by decide) ?_
      refine tr_V.icmp_ne (tgt := 14) dX4_fillBest_7 (by decide) ?_ ?_
      · refine tr_V.iconst (v := (1 : Int32)) dX4_fillBest_10 (by decide) ?_
        refine tr_V.goto (tgt := 15) dX4_fillBest_11 (by decide) ?_
        exact tr_V.to (fun h => h) ⟨rfl, rfl, trivial⟩
      · refine tr_V.iconst (v := (0 : Int32)) dX4_fillBest_14 (by decide) ?_
        exact tr_V.to (fun h => h) ⟨rfl, rfl, trivial⟩
  · intro v1
    refine tr_V.gd (fun h4 => ?_)
    refine tr_V.bd (fun M2 h3 => ?_)
    refine tr_V.putZ h4 fl_X4_50 shC_25 rfl dX4_fillBest_15 h3 ?_
    refine tr_V.aload_n (i := 0) dX4_fillBest_18 rfl rfl ?_
    refine tr_V.iconst (v := (0 : Int32)) dX4_fillBest_19 (by decide) ?_
    refine tr_V.bd (fun M5 h6 => ?_)
    refine tr_V.putZ (by decide) fl_X4_53 shC_25 rfl dX4_fillBest_20 h6 ?_
    refine tr_V.aload_n (i := 0) dX4_fillBest_23 rfl rfl ?_
    refine tr_V.iload_n (i := 1) dX4_fillBest_24 rfl rfl ?_
    refine tr_V.bd (fun c7 h8 => ?_)
    refine tr_V.callV (C_X4_fillGapCosts p1 M5 _ h8) yk_X4_fillGapCosts iv_X4_fillGapCosts ml_X4_74 shC_25 rfl ⟨rfl, Nat.le_of_ble_eq_true rfl⟩ rfl (Nat.le_of_ble_eq_true rfl) rfl dX4_fillBest_25 ?_
    refine tr_V.aload_n (i := 0) dX4_fillBest_28 rfl rfl ?_
    refine tr_V.getR (Nat.succ_pos _) fl_X4_12 shC_25 rfl dX4_fillBest_29 ?_
    refine tr_V.callV (C_X5_everything 26 isW_26 c7) yk_X5_everything iv_X5_everything ml_X4_77 shC_26 rfl ⟨rfl, Nat.le_of_ble_eq_true rfl⟩ rfl (Nat.le_of_ble_eq_true rfl) rfl dX4_fillBest_32 ?_
    refine tr_V.istore_n (i := 2) dX4_fillBest_35 rfl (Nat.le_of_ble_eq_true rfl) rfl ?_
    refine tr_V.loop (σ := Int32 × tr_M) (step := mX4_fillBest_l36) (L := fun s11 => [(0, some (.ref 25)), (2, some (.int s11.1))]) (Mf := fun s11 => s11.2) ?_ ((mX5_everything 26 c7), c7) ⟨rfl, rfl, trivial⟩
    intro s11
    refine tr_V.iload_n (i := 2) dX4_fillBest_36 rfl rfl ?_
    refine tr_V.if_lt (tgt := 87) dX4_fillBest_37 (by decide) ?_ ?_
    · exact tr_V.vret dX4_fillBest_87 rfl (fun h => h)
    · refine tr_V.iconst (v := (0 : Int32)) dX4_fillBest_40 (by decide) ?_
      refine tr_V.istore_n (i := 3) dX4_fillBest_41 rfl (Nat.le_of_ble_eq_true rfl) rfl ?_
      refine tr_V.loop (σ := Int32 × tr_M) (step := mX4_fillBest_l42 s11) (L := fun s12 => [(0, some (.ref 25)), (2, some (.int s11.1)), (3, some (.int s12.1))]) (Mf := fun s12 => s12.2) ?_ ((0 : Int32), s11.2) ⟨rfl, rfl, rfl, trivial⟩
      intro s12
      refine tr_V.iload_n (i := 3) dX4_fillBest_42 rfl rfl ?_
      refine tr_V.aload_n (i := 0) dX4_fillBest_43 rfl rfl ?_
      refine tr_V.iload_n (i := 2) dX4_fillBest_44 rfl rfl ?_
      refine tr_V.callV (C_X4_lastsOf s11.1 s12.2) yk_X4_lastsOf iv_X4_lastsOf ml_X4_81 shC_25 rfl ⟨rfl, Nat.le_of_ble_eq_true rfl⟩ rfl (Nat.le_of_ble_eq_true rfl) rfl dX4_fillBest_45 ?_
      refine tr_V.icmp_ge (tgt := 81) dX4_fillBest_48 (by decide) ?_ ?_
      · refine tr_V.iload_n (i := 2) dX4_fillBest_51 rfl rfl ?_
        refine tr_V.iload_n (i := 3) dX4_fillBest_52 rfl rfl ?_
        refine tr_V.callS (C_X4_isState s11.1 s12.1 s12.2) yk_X4_isState sc_X4_isState ml_X4_85 ⟨rfl, Nat.le_of_ble_eq_true rfl⟩ rfl (Nat.le_of_ble_eq_true rfl) rfl dX4_fillBest_53 ?_
        refine tr_V.if_eq (tgt := 75) dX4_fillBest_56 (by decide) ?_ ?_
        · refine tr_V.iinc (cst := (1 : Int32)) dX4_fillBest_75 rfl (by decide) rfl ?_
          refine tr_V.goto (tgt := 42) dX4_fillBest_78 (by decide) ?_
          exact tr_V.to (fun h => h) ⟨rfl, rfl, rfl, trivial⟩
        · refine tr_V.aload_n (i := 0) dX4_fillBest_59 rfl rfl ?_
          refine tr_V.getR (Nat.succ_pos _) fl_X4_28 shC_25 rfl dX4_fillBest_60 ?_
          refine tr_V.iload_n (i := 2) dX4_fillBest_63 rfl rfl ?_
          refine tr_V.iload_n (i := 3) dX4_fillBest_64 rfl rfl ?_
          refine tr_V.callS (C_X4_stateOf s11.1 s12.1 s12.2) yk_X4_stateOf sc_X4_stateOf ml_X4_89 ⟨rfl, Nat.le_of_ble_eq_true rfl⟩ rfl (Nat.le_of_ble_eq_true rfl) rfl dX4_fillBest_65 ?_
          refine tr_V.aload_n (i := 0) dX4_fillBest_68 rfl rfl ?_
          refine tr_V.iload_n (i := 2) dX4_fillBest_69 rfl rfl ?_
          refine tr_V.iload_n (i := 3) dX4_fillBest_70 rfl rfl ?_
          refine tr_V.bd (fun c19 h20 => ?_)
          refine tr_V.callV (C_X4_bestOf s11.1 s12.1 s12.2 _ h20) yk_X4_bestOf iv_X4_bestOf ml_X4_93 shC_25 rfl ⟨rfl, Nat.le_of_ble_eq_true rfl⟩ rfl (Nat.le_of_ble_eq_true rfl) rfl dX4_fillBest_71 ?_
          refine tr_V.bd (fun M21 h22 => ?_)
          refine tr_V.iast h22 shC_48 dX4_fillBest_74 ?_
          refine tr_V.iinc (cst := (1 : Int32)) dX4_fillBest_75 rfl (by decide) rfl ?_
          refine tr_V.goto (tgt := 42) dX4_fillBest_78 (by decide) ?_
          exact tr_V.to (fun h => h) ⟨rfl, rfl, rfl, trivial⟩
      · refine tr_V.bd (fun x23 h24 => ?_)
        refine tr_V.iincN (cst := (-1 : Int32)) dX4_fillBest_81 rfl (by decide) rfl h24 ?_
        refine tr_V.goto (tgt := 36) dX4_fillBest_84 (by decide) ?_
        exact tr_V.to (fun h => h) ⟨rfl, rfl, trivial⟩
abbrev xX4_solve : tr_X := (cX4_solve, 2, RX4, (some .boolean), 5, shC, 81)
theorem cw_X4_solve : Cond.code yX4_solve cX4_solve 2 (some .boolean) ∈ tr_tbl := tr_in 689 (by decide +kernel) rfl
theorem yk_X4_solve : tr_yk yX4_solve (xX4_solve) 1 := ⟨cw_X4_solve, in_X4, ⟨by decide +kernel, by decide +kernel, by decide +kernel⟩, Nat.le_of_ble_eq_true rfl⟩
theorem iv_X4_solve : Cond.instanceMethod yX4_solve ∈ tr_tbl ∧ Cond.selects (yX4_solve).cls yX4_solve yX4_solve ∈ tr_tbl := ⟨tr_in 687 (by decide +kernel) rfl, tr_in 688 (by decide +kernel) rfl⟩
def mX4_solve (p1 : Int32) (M : tr_M) : Option (Int32 × tr_M) :=
  Option.bind (some (tr_st M 25 10 (0 : Int32))) (fun M1 =>
  Option.bind (mX4_fillFitting M1) (fun c3 =>
  Option.bind (mX4_fillBest p1 c3) (fun c5 =>
  Option.bind (tr_rd 10240 c5 48 (0 : Int32)) (fun a7 =>
  if a7 < (268435456 : Int32) then (
    some ((1 : Int32), c5)
  ) else (
    some ((0 : Int32), c5)
  )
  )
  )
  )
  )
set_option maxRecDepth 100000 in
set_option maxHeartbeats 4000000 in
theorem C_X4_solve (p1 : Int32) (M : tr_M) (r : Int32 × tr_M) (h : mX4_solve p1 M = some r) : tr_I yX4_solve (xX4_solve) [.ref 25, .int p1] M (some (.int r.1)) r.2 := by
  refine tr_I.of (Z := fun q : Int32 × tr_M => (some (.int r.1) : Option Value) = some (.int q.1) ∧ r.2 = q.2) pn_X4 rfl gdC (Nat.le_of_ble_eq_true rfl) (fun Wt => ?_) h ⟨rfl, rfl⟩
  unfold mX4_solve
  refine tr_V.aload_n (i := 0) dX4_solve_0 rfl rfl ?_
  refine tr_V.iconst (v := (0 : Int32)) dX4_solve_1 (by decide) ?_
  refine tr_V.bd (fun M1 h2 => ?_)
  refine tr_V.putZ (by decide) fl_X4_46 shC_25 rfl dX4_solve_2 h2 ?_
  refine tr_V.aload_n (i := 0) dX4_solve_5 rfl rfl ?_
  refine tr_V.bd (fun c3 h4 => ?_)
  refine tr_V.callV (C_X4_fillFitting M1 _ h4) yk_X4_fillFitting iv_X4_fillFitting ml_X4_63 shC_25 rfl ⟨rfl, Nat.le_of_ble_eq_true rfl⟩ rfl (Nat.le_of_ble_eq_true rfl) rfl dX4_solve_6 ?_
  refine tr_V.aload_n (i := 0) dX4_solve_9 rfl rfl ?_
  refine tr_V.iload_n (i := 1) dX4_solve_10 rfl rfl ?_
  refine tr_V.bd (fun c5 h6 => ?_)
  refine tr_V.callV (C_X4_fillBest p1 c3 _ h6) yk_X4_fillBest iv_X4_fillBest ml_X4_66 shC_25 rfl ⟨rfl, Nat.le_of_ble_eq_true rfl⟩ rfl (Nat.le_of_ble_eq_true rfl) rfl dX4_solve_11 ?_
  refine tr_V.aload_n (i := 0) dX4_solve_14 rfl rfl ?_
  refine tr_V.getR (Nat.succ_pos _) fl_X4_28 shC_25 rfl dX4_solve_15 ?_
  refine tr_V.iconst (v := (0 : Int32)) dX4_solve_18 (by decide) ?_
  refine tr_V.bd (fun a7 h8 => ?_)
  refine tr_V.iald h8 shC_48 dX4_solve_19 ?_
  refine tr_V.ldc ct_X4_70 dX4_solve_20 ?_
  refine tr_V.icmp_ge (tgt := 29) dX4_solve_22 (by decide) ?_ ?_
  · refine tr_V.iconst (v := (1 : Int32)) dX4_solve_25 (by decide) ?_
    refine tr_V.goto (tgt := 30) dX4_solve_26 (by decide) ?_
    exact tr_V.zret (by decide) dX4_solve_30 rfl (fun h => h)
  · refine tr_V.iconst (v := (0 : Int32)) dX4_solve_29 (by decide) ?_
    exact tr_V.zret (by decide) dX4_solve_30 rfl (fun h => h)
abbrev xX4_goesOnLeast : tr_X := (cX4_goesOnLeast, 5, RX4, (some .boolean), 2, shC, 81)
theorem cw_X4_goesOnLeast : Cond.code yX4_goesOnLeast cX4_goesOnLeast 5 (some .boolean) ∈ tr_tbl := tr_in 760 (by decide +kernel) rfl
theorem yk_X4_goesOnLeast : tr_yk yX4_goesOnLeast (xX4_goesOnLeast) 3 := ⟨cw_X4_goesOnLeast, in_X4, ⟨by decide +kernel, by decide +kernel, by decide +kernel⟩, Nat.le_of_ble_eq_true rfl⟩
theorem iv_X4_goesOnLeast : Cond.instanceMethod yX4_goesOnLeast ∈ tr_tbl ∧ Cond.selects (yX4_goesOnLeast).cls yX4_goesOnLeast yX4_goesOnLeast ∈ tr_tbl := ⟨tr_in 759 (by decide +kernel) rfl, tr_in 27 (by decide +kernel) rfl⟩
def mX4_goesOnLeast (p1 : Int32) (p2 : Int32) (p3 : Int32) (M : tr_M) : Option (Int32) :=
  Option.bind (tr_rd 10240 M 48 (mX4_stateOf (p1 ||| ((1 : Int32) <<< (p3 &&& 31))) p3)) (fun a3 =>
  if a3 < (268435456 : Int32) then (
    if (M.1 25 11) = 0 then (
      Option.bind (tr_rd 10240 M 48 (0 : Int32)) (fun a5 =>
      if a5 < a3 then (
        some (0 : Int32)
      ) else (
        some (1 : Int32)
      )
      )
    ) else (
      Option.bind (tr_rd 1024 M 45 p1) (fun a7 =>
      Option.bind (tr_rd 10240 M 48 (mX4_stateOf p1 p2)) (fun a11 =>
      if (a3 + a7) = a11 then (
        some (1 : Int32)
      ) else (
        some (0 : Int32)
      )
      )
      )
    )
  ) else (
    some (0 : Int32)
  )
  )
set_option maxRecDepth 100000 in
set_option maxHeartbeats 4000000 in
theorem C_X4_goesOnLeast (p1 : Int32) (p2 : Int32) (p3 : Int32) (M : tr_M) (r : Int32) (h : mX4_goesOnLeast p1 p2 p3 M = some r) : tr_I yX4_goesOnLeast (xX4_goesOnLeast) [.ref 25, .int p1, .int p2, .int p3] M (some (.int r)) M := by
  refine tr_I.of (Z := fun q : Int32 => (some (.int r) : Option Value) = some (.int q) ∧ M = M) pn_X4 rfl gdC (Nat.le_of_ble_eq_true rfl) (fun Wt => ?_) h ⟨rfl, rfl⟩
  unfold mX4_goesOnLeast
  refine tr_V.aload_n (i := 0) dX4_goesOnLeast_0 rfl rfl ?_
  refine tr_V.getR (Nat.succ_pos _) fl_X4_28 shC_25 rfl dX4_goesOnLeast_1 ?_
  refine tr_V.iload_n (i := 1) dX4_goesOnLeast_4 rfl rfl ?_
  refine tr_V.iconst (v := (1 : Int32)) dX4_goesOnLeast_5 (by decide) ?_
  refine tr_V.iload_n (i := 3) dX4_goesOnLeast_6 rfl rfl ?_
  refine tr_V.ishl dX4_goesOnLeast_7 ?_
  refine tr_V.ior dX4_goesOnLeast_8 ?_
  refine tr_V.iload_n (i := 3) dX4_goesOnLeast_9 rfl rfl ?_
  refine tr_V.callS (C_X4_stateOf (p1 ||| ((1 : Int32) <<< (p3 &&& 31))) p3 M) yk_X4_stateOf sc_X4_stateOf ml_X4_89 ⟨rfl, Nat.le_of_ble_eq_true rfl⟩ rfl (Nat.le_of_ble_eq_true rfl) rfl dX4_goesOnLeast_10 ?_
  refine tr_V.bd (fun a3 h4 => ?_)
  refine tr_V.iald h4 shC_48 dX4_goesOnLeast_13 ?_
  refine tr_V.istore (i := 4) dX4_goesOnLeast_14 (Nat.le_of_ble_eq_true rfl) rfl ?_
  refine tr_V.iload dX4_goesOnLeast_16 rfl ?_
  refine tr_V.ldc ct_X4_70 dX4_goesOnLeast_18 ?_
  refine tr_V.icmp_lt (tgt := 25) dX4_goesOnLeast_20 (by decide) ?_ ?_
  · refine tr_V.aload_n (i := 0) dX4_goesOnLeast_25 rfl rfl ?_
    refine tr_V.getZ fl_X4_50 shC_25 rfl dX4_goesOnLeast_26 ?_
    refine tr_V.if_eq (tgt := 62) dX4_goesOnLeast_29 (by decide) ?_ ?_
    · refine tr_V.iload dX4_goesOnLeast_62 rfl ?_
      refine tr_V.aload_n (i := 0) dX4_goesOnLeast_64 rfl rfl ?_
      refine tr_V.getR (Nat.succ_pos _) fl_X4_28 shC_25 rfl dX4_goesOnLeast_65 ?_
      refine tr_V.iconst (v := (0 : Int32)) dX4_goesOnLeast_68 (by decide) ?_
      refine tr_V.bd (fun a5 h6 => ?_)
      refine tr_V.iald h6 shC_48 dX4_goesOnLeast_69 ?_
      refine tr_V.icmp_gt (tgt := 77) dX4_goesOnLeast_70 (by decide) ?_ ?_
      · refine tr_V.iconst (v := (0 : Int32)) dX4_goesOnLeast_77 (by decide) ?_
        exact tr_V.zret (by decide) dX4_goesOnLeast_78 rfl (fun h => h)
      · refine tr_V.iconst (v := (1 : Int32)) dX4_goesOnLeast_73 (by decide) ?_
        refine tr_V.goto (tgt := 78) dX4_goesOnLeast_74 (by decide) ?_
        exact tr_V.zret (by decide) dX4_goesOnLeast_78 rfl (fun h => h)
    · refine tr_V.iload dX4_goesOnLeast_32 rfl ?_
      refine tr_V.aload_n (i := 0) dX4_goesOnLeast_34 rfl rfl ?_
      refine tr_V.getR (Nat.succ_pos _) fl_X4_18 shC_25 rfl dX4_goesOnLeast_35 ?_
      refine tr_V.iload_n (i := 1) dX4_goesOnLeast_38 rfl rfl ?_
      refine tr_V.bd (fun a7 h8 => ?_)
      refine tr_V.iald h8 shC_45 dX4_goesOnLeast_39 ?_
      refine tr_V.iadd dX4_goesOnLeast_40 ?_
      refine tr_V.aload_n (i := 0) dX4_goesOnLeast_41 rfl rfl ?_
      refine tr_V.getR (Nat.succ_pos _) fl_X4_28 shC_25 rfl dX4_goesOnLeast_42 ?_
      refine tr_V.iload_n (i := 1) dX4_goesOnLeast_45 rfl rfl ?_
      refine tr_V.iload_n (i := 2) dX4_goesOnLeast_46 rfl rfl ?_
      refine tr_V.callS (C_X4_stateOf p1 p2 M) yk_X4_stateOf sc_X4_stateOf ml_X4_89 ⟨rfl, Nat.le_of_ble_eq_true rfl⟩ rfl (Nat.le_of_ble_eq_true rfl) rfl dX4_goesOnLeast_47 ?_
      refine tr_V.bd (fun a11 h12 => ?_)
      refine tr_V.iald h12 shC_48 dX4_goesOnLeast_50 ?_
      refine tr_V.icmp_ne (tgt := 58) dX4_goesOnLeast_51 (by decide) ?_ ?_
      · refine tr_V.iconst (v := (1 : Int32)) dX4_goesOnLeast_54 (by decide) ?_
        refine tr_V.goto (tgt := 78) dX4_goesOnLeast_55 (by decide) ?_
        exact tr_V.zret (by decide) dX4_goesOnLeast_78 rfl (fun h => h)
      · refine tr_V.iconst (v := (0 : Int32)) dX4_goesOnLeast_58 (by decide) ?_
        refine tr_V.goto (tgt := 78) dX4_goesOnLeast_59 (by decide) ?_
        exact tr_V.zret (by decide) dX4_goesOnLeast_78 rfl (fun h => h)
  · refine tr_V.iconst (v := (0 : Int32)) dX4_goesOnLeast_23 (by decide) ?_
    exact tr_V.zret (by decide) dX4_goesOnLeast_24 rfl (fun h => h)
abbrev xX4_fillLeastFrom : tr_X := (cX4_fillLeastFrom, 8, RX4, (Option.none : Option Jvm.ClassFile.FieldType), 3, shC, 81)
theorem cw_X4_fillLeastFrom : Cond.code yX4_fillLeastFrom cX4_fillLeastFrom 8 (Option.none : Option Jvm.ClassFile.FieldType) ∈ tr_tbl := tr_in 756 (by decide +kernel) rfl
theorem yk_X4_fillLeastFrom : tr_yk yX4_fillLeastFrom (xX4_fillLeastFrom) 2 := ⟨cw_X4_fillLeastFrom, in_X4, ⟨by decide +kernel, by decide +kernel, by decide +kernel⟩, Nat.le_of_ble_eq_true rfl⟩
theorem iv_X4_fillLeastFrom : Cond.instanceMethod yX4_fillLeastFrom ∈ tr_tbl ∧ Cond.selects (yX4_fillLeastFrom).cls yX4_fillLeastFrom yX4_fillLeastFrom ∈ tr_tbl := ⟨tr_in 755 (by decide +kernel) rfl, tr_in 26 (by decide +kernel) rfl⟩
def mX4_fillLeastFrom_l38 (p1 : Int32) (p2 : Int32) (M : tr_M) (c3 : Int32) (s9 : Int32 × Int32 × Int32) : Option ((Int32 × Int32 × Int32) ⊕ (Int32 × Int32)) :=
  if s9.2.2 < (M.1 26 0) then (
    if ((c3 >>> (s9.2.2 &&& 31)) &&& (1 : Int32)) = 0 then (
      some (.inl (s9.1, s9.2.1, (s9.2.2 + (1 : Int32))))
    ) else (
      Option.bind (mX4_goesOnLeast p1 p2 s9.2.2 M) (fun c10 =>
      if c10 = 0 then (
        some (.inl (s9.1, s9.2.1, (s9.2.2 + (1 : Int32))))
      ) else (
        Option.bind (some (s9.1 ||| ((1 : Int32) <<< (s9.2.2 &&& 31)))) (fun x12 =>
        Option.bind (tr_rd 10240 M 50 (mX4_stateOf (p1 ||| ((1 : Int32) <<< (s9.2.2 &&& 31))) s9.2.2)) (fun a16 =>
        some (.inl (x12, (s9.2.1 + a16), (s9.2.2 + (1 : Int32))))
        )
        )
      )
      )
    )
  ) else (
    some (.inr (s9.1, s9.2.1))
  )
def mX4_fillLeastFrom (p1 : Int32) (p2 : Int32) (M : tr_M) : Option (tr_M) :=
  Option.bind (mX4_nextOf p1 p2 M) (fun c3 =>
  Option.bind (show Option (Int32) from
    if p1 = (mX5_everything 26 M) then (
      some (1 : Int32)
    ) else (
      some (0 : Int32)
    )
  ) (fun (v7 : Int32) =>
    Option.bind (show Option (Int32 × Int32) from
      tr_loop (mX4_fillLeastFrom_l38 p1 p2 M c3) ((0 : Int32), v7, (0 : Int32))
    ) (fun (v8 : Int32 × Int32) =>
      Option.bind (tr_wr 10240 M 49 (mX4_stateOf p1 p2) v8.1) (fun M18 =>
      Option.bind (tr_wr 10240 M18 50 (mX4_stateOf p1 p2) v8.2) (fun M20 =>
      some M20
      )
      )
    )
  )
  )
set_option maxRecDepth 100000 in
set_option maxHeartbeats 4000000 in
theorem C_X4_fillLeastFrom (p1 : Int32) (p2 : Int32) (M M' : tr_M) (h : mX4_fillLeastFrom p1 p2 M = some M') : tr_I yX4_fillLeastFrom (xX4_fillLeastFrom) [.ref 25, .int p1, .int p2] M none M' := by
  refine tr_I.of (Z := fun q : tr_M => (none : Option Value) = none ∧ M' = q) pn_X4 rfl gdC (Nat.le_of_ble_eq_true rfl) (fun Wt => ?_) h ⟨rfl, rfl⟩
  unfold mX4_fillLeastFrom
  refine tr_V.iload_n (i := 1) dX4_fillLeastFrom_0 rfl rfl ?_
  refine tr_V.iload_n (i := 2) dX4_fillLeastFrom_1 rfl rfl ?_
  refine tr_V.callS (C_X4_stateOf p1 p2 M) yk_X4_stateOf sc_X4_stateOf ml_X4_89 ⟨rfl, Nat.le_of_ble_eq_true rfl⟩ rfl (Nat.le_of_ble_eq_true rfl) rfl dX4_fillLeastFrom_2 ?_
  refine tr_V.istore_n (i := 3) dX4_fillLeastFrom_5 rfl (Nat.le_of_ble_eq_true rfl) rfl ?_
  refine tr_V.aload_n (i := 0) dX4_fillLeastFrom_6 rfl rfl ?_
  refine tr_V.iload_n (i := 1) dX4_fillLeastFrom_7 rfl rfl ?_
  refine tr_V.iload_n (i := 2) dX4_fillLeastFrom_8 rfl rfl ?_
  refine tr_V.bd (fun c3 h4 => ?_)
  refine tr_V.callV (C_X4_nextOf p1 p2 M _ h4) yk_X4_nextOf iv_X4_nextOf ml_X4_122 shC_25 rfl ⟨rfl, Nat.le_of_ble_eq_true rfl⟩ rfl (Nat.le_of_ble_eq_true rfl) rfl dX4_fillLeastFrom_9 ?_
  refine tr_V.istore (i := 4) dX4_fillLeastFrom_12 (Nat.le_of_ble_eq_true rfl) rfl ?_
  refine tr_V.iconst (v := (0 : Int32)) dX4_fillLeastFrom_14 (by decide) ?_
  refine tr_V.istore (i := 5) dX4_fillLeastFrom_15 (Nat.le_of_ble_eq_true rfl) rfl ?_
  refine tr_V.iload_n (i := 1) dX4_fillLeastFrom_17 rfl rfl ?_
  refine tr_V.aload_n (i := 0) dX4_fillLeastFrom_18 rfl rfl ?_
  refine tr_V.getR (Nat.succ_pos _) fl_X4_12 shC_25 rfl dX4_fillLeastFrom_19 ?_
  refine tr_V.callV (C_X5_everything 26 isW_26 M) yk_X5_everything iv_X5_everything ml_X4_77 shC_26 rfl ⟨rfl, Nat.le_of_ble_eq_true rfl⟩ rfl (Nat.le_of_ble_eq_true rfl) rfl dX4_fillLeastFrom_22 ?_
  refine tr_V.seq (τ := Int32) (pc' := 33) (L := fun v7 => [(0, some (.ref 25)), (1, some (.int p1)), (2, some (.int p2)), (3, some (.int (mX4_stateOf p1 p2))), (4, some (.int c3)), (5, some (.int (0 : Int32)))]) (S := fun v7 => [.int v7]) (Mf := fun v7 => M) ?_ ?_
  · refine tr_V.icmp_ne (tgt := 32) dX4_fillLeastFrom_25 (by decide) ?_ ?_
    · refine tr_V.iconst (v := (1 : Int32)) dX4_fillLeastFrom_28 (by decide) ?_
      refine tr_V.goto (tgt := 33) dX4_fillLeastFrom_29 (by decide) ?_
      exact tr_V.to (fun h => h) ⟨rfl, rfl, rfl, rfl, rfl, rfl, trivial⟩
    · refine tr_V.iconst (v := (0 : Int32)) dX4_fillLeastFrom_32 (by decide) ?_
      exact tr_V.to (fun h => h) ⟨rfl, rfl, rfl, rfl, rfl, rfl, trivial⟩
  · intro v7
    refine tr_V.istore (i := 6) dX4_fillLeastFrom_33 (Nat.le_of_ble_eq_true rfl) rfl ?_
    refine tr_V.iconst (v := (0 : Int32)) dX4_fillLeastFrom_35 (by decide) ?_
    refine tr_V.istore (i := 7) dX4_fillLeastFrom_36 (Nat.le_of_ble_eq_true rfl) rfl ?_
    refine tr_V.seq (τ := Int32 × Int32) (pc' := 107) (L := fun v8 => [(0, some (.ref 25)), (3, some (.int (mX4_stateOf p1 p2))), (5, some (.int v8.1)), (6, some (.int v8.2))]) (S := fun v8 => []) (Mf := fun v8 => M) ?_ ?_
    · refine tr_V.loop (σ := Int32 × Int32 × Int32) (step := mX4_fillLeastFrom_l38 p1 p2 M c3) (L := fun s9 => [(0, some (.ref 25)), (1, some (.int p1)), (2, some (.int p2)), (3, some (.int (mX4_stateOf p1 p2))), (4, some (.int c3)), (5, some (.int s9.1)), (6, some (.int s9.2.1)), (7, some (.int s9.2.2))]) (Mf := fun s9 => M) ?_ ((0 : Int32), v7, (0 : Int32)) ⟨rfl, rfl, rfl, rfl, rfl, rfl, rfl, rfl, trivial⟩
      intro s9
      refine tr_V.iload dX4_fillLeastFrom_38 rfl ?_
      refine tr_V.aload_n (i := 0) dX4_fillLeastFrom_40 rfl rfl ?_
      refine tr_V.getR (Nat.succ_pos _) fl_X4_12 shC_25 rfl dX4_fillLeastFrom_41 ?_
      refine tr_V.getI fl_X4_96 shC_26 rfl dX4_fillLeastFrom_44 ?_
      refine tr_V.icmp_ge (tgt := 107) dX4_fillLeastFrom_47 (by decide) ?_ ?_
      · refine tr_V.iload dX4_fillLeastFrom_50 rfl ?_
        refine tr_V.iload dX4_fillLeastFrom_52 rfl ?_
        refine tr_V.ishr dX4_fillLeastFrom_54 ?_
        refine tr_V.iconst (v := (1 : Int32)) dX4_fillLeastFrom_55 (by decide) ?_
        refine tr_V.iand dX4_fillLeastFrom_56 ?_
        refine tr_V.if_eq (tgt := 101) dX4_fillLeastFrom_57 (by decide) ?_ ?_
        · refine tr_V.iinc (cst := (1 : Int32)) dX4_fillLeastFrom_101 rfl (by decide) rfl ?_
          refine tr_V.goto (tgt := 38) dX4_fillLeastFrom_104 (by decide) ?_
          exact tr_V.to (fun h => h) ⟨rfl, rfl, rfl, rfl, rfl, rfl, rfl, rfl, trivial⟩
        · refine tr_V.aload_n (i := 0) dX4_fillLeastFrom_60 rfl rfl ?_
          refine tr_V.iload_n (i := 1) dX4_fillLeastFrom_61 rfl rfl ?_
          refine tr_V.iload_n (i := 2) dX4_fillLeastFrom_62 rfl rfl ?_
          refine tr_V.iload dX4_fillLeastFrom_63 rfl ?_
          refine tr_V.bd (fun c10 h11 => ?_)
          refine tr_V.callV (C_X4_goesOnLeast p1 p2 s9.2.2 M _ h11) yk_X4_goesOnLeast iv_X4_goesOnLeast ml_X4_137 shC_25 rfl ⟨rfl, Nat.le_of_ble_eq_true rfl⟩ rfl (Nat.le_of_ble_eq_true rfl) rfl dX4_fillLeastFrom_65 ?_
          refine tr_V.if_eq (tgt := 101) dX4_fillLeastFrom_68 (by decide) ?_ ?_
          · refine tr_V.iinc (cst := (1 : Int32)) dX4_fillLeastFrom_101 rfl (by decide) rfl ?_
            refine tr_V.goto (tgt := 38) dX4_fillLeastFrom_104 (by decide) ?_
            exact tr_V.to (fun h => h) ⟨rfl, rfl, rfl, rfl, rfl, rfl, rfl, rfl, trivial⟩
          · refine tr_V.iload dX4_fillLeastFrom_71 rfl ?_
            refine tr_V.iconst (v := (1 : Int32)) dX4_fillLeastFrom_73 (by decide) ?_
            refine tr_V.iload dX4_fillLeastFrom_74 rfl ?_
            refine tr_V.ishl dX4_fillLeastFrom_76 ?_
            refine tr_V.ior dX4_fillLeastFrom_77 ?_
            refine tr_V.bd (fun x12 h13 => ?_)
            refine tr_V.nmI h13 ?_
            refine tr_V.istore (i := 5) dX4_fillLeastFrom_78 (Nat.le_of_ble_eq_true rfl) rfl ?_
            refine tr_V.iload dX4_fillLeastFrom_80 rfl ?_
            refine tr_V.aload_n (i := 0) dX4_fillLeastFrom_82 rfl rfl ?_
            refine tr_V.getR (Nat.succ_pos _) fl_X4_34 shC_25 rfl dX4_fillLeastFrom_83 ?_
            refine tr_V.iload_n (i := 1) dX4_fillLeastFrom_86 rfl rfl ?_
            refine tr_V.iconst (v := (1 : Int32)) dX4_fillLeastFrom_87 (by decide) ?_
            refine tr_V.iload dX4_fillLeastFrom_88 rfl ?_
            refine tr_V.ishl dX4_fillLeastFrom_90 ?_
            refine tr_V.ior dX4_fillLeastFrom_91 ?_
            refine tr_V.iload dX4_fillLeastFrom_92 rfl ?_
            refine tr_V.callS (C_X4_stateOf (p1 ||| ((1 : Int32) <<< (s9.2.2 &&& 31))) s9.2.2 M) yk_X4_stateOf sc_X4_stateOf ml_X4_89 ⟨rfl, Nat.le_of_ble_eq_true rfl⟩ rfl (Nat.le_of_ble_eq_true rfl) rfl dX4_fillLeastFrom_94 ?_
            refine tr_V.bd (fun a16 h17 => ?_)
            refine tr_V.iald h17 shC_50 dX4_fillLeastFrom_97 ?_
            refine tr_V.iadd dX4_fillLeastFrom_98 ?_
            refine tr_V.istore (i := 6) dX4_fillLeastFrom_99 (Nat.le_of_ble_eq_true rfl) rfl ?_
            refine tr_V.iinc (cst := (1 : Int32)) dX4_fillLeastFrom_101 rfl (by decide) rfl ?_
            refine tr_V.goto (tgt := 38) dX4_fillLeastFrom_104 (by decide) ?_
            exact tr_V.to (fun h => h) ⟨rfl, rfl, rfl, rfl, rfl, rfl, rfl, rfl, trivial⟩
      · exact tr_V.to (fun h => h) ⟨rfl, rfl, rfl, rfl, trivial⟩
    · intro v8
      refine tr_V.aload_n (i := 0) dX4_fillLeastFrom_107 rfl rfl ?_
      refine tr_V.getR (Nat.succ_pos _) fl_X4_31 shC_25 rfl dX4_fillLeastFrom_108 ?_
      refine tr_V.iload_n (i := 3) dX4_fillLeastFrom_111 rfl rfl ?_
      refine tr_V.iload dX4_fillLeastFrom_112 rfl ?_
      refine tr_V.bd (fun M18 h19 => ?_)
      refine tr_V.iast h19 shC_49 dX4_fillLeastFrom_114 ?_
      refine tr_V.aload_n (i := 0) dX4_fillLeastFrom_115 rfl rfl ?_
      refine tr_V.getR (Nat.succ_pos _) fl_X4_34 shC_25 rfl dX4_fillLeastFrom_116 ?_
      refine tr_V.iload_n (i := 3) dX4_fillLeastFrom_119 rfl rfl ?_
      refine tr_V.iload dX4_fillLeastFrom_120 rfl ?_
      refine tr_V.bd (fun M20 h21 => ?_)
      refine tr_V.iast h21 shC_50 dX4_fillLeastFrom_122 ?_
      exact tr_V.vret dX4_fillLeastFrom_123 rfl (fun h => h)
abbrev xX4_fillLeast : tr_X := (cX4_fillLeast, 3, RX4, (Option.none : Option Jvm.ClassFile.FieldType), 4, shC, 81)
theorem cw_X4_fillLeast : Cond.code yX4_fillLeast cX4_fillLeast 3 (Option.none : Option Jvm.ClassFile.FieldType) ∈ tr_tbl := tr_in 752 (by decide +kernel) rfl
theorem yk_X4_fillLeast : tr_yk yX4_fillLeast (xX4_fillLeast) 0 := ⟨cw_X4_fillLeast, in_X4, ⟨by decide +kernel, by decide +kernel, by decide +kernel⟩, Nat.le_of_ble_eq_true rfl⟩
theorem iv_X4_fillLeast : Cond.instanceMethod yX4_fillLeast ∈ tr_tbl ∧ Cond.selects (yX4_fillLeast).cls yX4_fillLeast yX4_fillLeast ∈ tr_tbl := ⟨tr_in 750 (by decide +kernel) rfl, tr_in 751 (by decide +kernel) rfl⟩
def mX4_fillLeast_l27 (s5 : Int32 × tr_M) (s6 : Int32 × tr_M) : Option ((Int32 × tr_M) ⊕ ((Int32 × tr_M) ⊕ (tr_M))) :=
  if s6.1 < (mX4_lastsOf s5.1 s6.2) then (
    if (mX4_isState s5.1 s6.1) = 0 then (
      some (.inl ((s6.1 + (1 : Int32)), s6.2))
    ) else (
      Option.bind (mX4_fillLeastFrom s5.1 s6.1 s6.2) (fun c11 =>
      some (.inl ((s6.1 + (1 : Int32)), c11))
      )
    )
  ) else (
    Option.bind (some (s5.1 + (-1 : Int32))) (fun x13 =>
    some (.inr (.inl (x13, s6.2)))
    )
  )
def mX4_fillLeast_l21  (s5 : Int32 × tr_M) : Option ((Int32 × tr_M) ⊕ (tr_M)) :=
  if s5.1 < 0 then (
    some (.inr s5.2)
  ) else (
    tr_loop (mX4_fillLeast_l27 s5) ((0 : Int32), s5.2)
  )
def mX4_fillLeast  (M : tr_M) : Option (tr_M) :=
  if (M.1 25 12) = 0 then (
    Option.bind (some (tr_st M 25 12 (1 : Int32))) (fun M1 =>
    tr_loop (mX4_fillLeast_l21) ((mX5_everything 26 M1), M1)
    )
  ) else (
    some M
  )
set_option maxRecDepth 100000 in
set_option maxHeartbeats 4000000 in
theorem C_X4_fillLeast  (M M' : tr_M) (h : mX4_fillLeast M = some M') : tr_I yX4_fillLeast (xX4_fillLeast) [.ref 25] M none M' := by
  refine tr_I.of (Z := fun q : tr_M => (none : Option Value) = none ∧ M' = q) pn_X4 rfl gdC (Nat.le_of_ble_eq_true rfl) (fun Wt => ?_) h ⟨rfl, rfl⟩
  unfold mX4_fillLeast
  refine tr_V.aload_n (i := 0) dX4_fillLeast_0 rfl rfl ?_
  refine tr_V.getZ fl_X4_53 shC_25 rfl dX4_fillLeast_1 ?_
  refine tr_V.if_eq (tgt := 8) dX4_fillLeast_4 (by decide) ?_ ?_
  · refine tr_V.aload_n (i := 0) dX4_fillLeast_8 rfl rfl ?_
    refine tr_V.iconst (v := (1 : Int32)) dX4_fillLeast_9 (by decide) ?_
    refine tr_V.bd (fun M1 h2 => ?_)
    refine tr_V.putZ (by decide) fl_X4_53 shC_25 rfl dX4_fillLeast_10 h2 ?_
    refine tr_V.aload_n (i := 0) dX4_fillLeast_13 rfl rfl ?_
    refine tr_V.getR (Nat.succ_pos _) fl_X4_12 shC_25 rfl dX4_fillLeast_14 ?_
    refine tr_V.callV (C_X5_everything 26 isW_26 M1) yk_X5_everything iv_X5_everything ml_X4_77 shC_26 rfl ⟨rfl, Nat.le_of_ble_eq_true rfl⟩ rfl (Nat.le_of_ble_eq_true rfl) rfl dX4_fillLeast_17 ?_
    refine tr_V.istore_n (i := 1) dX4_fillLeast_20 rfl (Nat.le_of_ble_eq_true rfl) rfl ?_
    refine tr_V.loop (σ := Int32 × tr_M) (step := mX4_fillLeast_l21) (L := fun s5 => [(0, some (.ref 25)), (1, some (.int s5.1))]) (Mf := fun s5 => s5.2) ?_ ((mX5_everything 26 M1), M1) ⟨rfl, rfl, trivial⟩
    intro s5
    refine tr_V.iload_n (i := 1) dX4_fillLeast_21 rfl rfl ?_
    refine tr_V.if_lt (tgt := 62) dX4_fillLeast_22 (by decide) ?_ ?_
    · exact tr_V.vret dX4_fillLeast_62 rfl (fun h => h)
    · refine tr_V.iconst (v := (0 : Int32)) dX4_fillLeast_25 (by decide) ?_
      refine tr_V.istore_n (i := 2) dX4_fillLeast_26 rfl (Nat.le_of_ble_eq_true rfl) rfl ?_
      refine tr_V.loop (σ := Int32 × tr_M) (step := mX4_fillLeast_l27 s5) (L := fun s6 => [(0, some (.ref 25)), (1, some (.int s5.1)), (2, some (.int s6.1))]) (Mf := fun s6 => s6.2) ?_ ((0 : Int32), s5.2) ⟨rfl, rfl, rfl, trivial⟩
      intro s6
      refine tr_V.iload_n (i := 2) dX4_fillLeast_27 rfl rfl ?_
      refine tr_V.aload_n (i := 0) dX4_fillLeast_28 rfl rfl ?_
      refine tr_V.iload_n (i := 1) dX4_fillLeast_29 rfl rfl ?_
      refine tr_V.callV (C_X4_lastsOf s5.1 s6.2) yk_X4_lastsOf iv_X4_lastsOf ml_X4_81 shC_25 rfl ⟨rfl, Nat.le_of_ble_eq_true rfl⟩ rfl (Nat.le_of_ble_eq_true rfl) rfl dX4_fillLeast_30 ?_
      refine tr_V.icmp_ge (tgt := 56) dX4_fillLeast_33 (by decide) ?_ ?_
      · refine tr_V.iload_n (i := 1) dX4_fillLeast_36 rfl rfl ?_
        refine tr_V.iload_n (i := 2) dX4_fillLeast_37 rfl rfl ?_
        refine tr_V.callS (C_X4_isState s5.1 s6.1 s6.2) yk_X4_isState sc_X4_isState ml_X4_85 ⟨rfl, Nat.le_of_ble_eq_true rfl⟩ rfl (Nat.le_of_ble_eq_true rfl) rfl dX4_fillLeast_38 ?_
        refine tr_V.if_eq (tgt := 50) dX4_fillLeast_41 (by decide) ?_ ?_
        · refine tr_V.iinc (cst := (1 : Int32)) dX4_fillLeast_50 rfl (by decide) rfl ?_
          refine tr_V.goto (tgt := 27) dX4_fillLeast_53 (by decide) ?_
          exact tr_V.to (fun h => h) ⟨rfl, rfl, rfl, trivial⟩
        · refine tr_V.aload_n (i := 0) dX4_fillLeast_44 rfl rfl ?_
          refine tr_V.iload_n (i := 1) dX4_fillLeast_45 rfl rfl ?_
          refine tr_V.iload_n (i := 2) dX4_fillLeast_46 rfl rfl ?_
          refine tr_V.bd (fun c11 h12 => ?_)
          refine tr_V.callV (C_X4_fillLeastFrom s5.1 s6.1 s6.2 _ h12) yk_X4_fillLeastFrom iv_X4_fillLeastFrom ml_X4_133 shC_25 rfl ⟨rfl, Nat.le_of_ble_eq_true rfl⟩ rfl (Nat.le_of_ble_eq_true rfl) rfl dX4_fillLeast_47 ?_
          refine tr_V.iinc (cst := (1 : Int32)) dX4_fillLeast_50 rfl (by decide) rfl ?_
          refine tr_V.goto (tgt := 27) dX4_fillLeast_53 (by decide) ?_
          exact tr_V.to (fun h => h) ⟨rfl, rfl, rfl, trivial⟩
      · refine tr_V.bd (fun x13 h14 => ?_)
        refine tr_V.iincN (cst := (-1 : Int32)) dX4_fillLeast_56 rfl (by decide) rfl h14 ?_
        refine tr_V.goto (tgt := 21) dX4_fillLeast_59 (by decide) ?_
        exact tr_V.to (fun h => h) ⟨rfl, rfl, trivial⟩
  · exact tr_V.vret dX4_fillLeast_7 rfl (fun h => h)
abbrev xX4_solveWithin : tr_X := (cX4_solveWithin, 2, RX4, (Option.none : Option Jvm.ClassFile.FieldType), 5, shC, 81)
theorem cw_X4_solveWithin : Cond.code yX4_solveWithin cX4_solveWithin 2 (Option.none : Option Jvm.ClassFile.FieldType) ∈ tr_tbl := tr_in 980 (by decide +kernel) rfl
theorem yk_X4_solveWithin : tr_yk yX4_solveWithin (xX4_solveWithin) 1 := ⟨cw_X4_solveWithin, in_X4, ⟨by decide +kernel, by decide +kernel, by decide +kernel⟩, Nat.le_of_ble_eq_true rfl⟩
theorem iv_X4_solveWithin : Cond.instanceMethod yX4_solveWithin ∈ tr_tbl ∧ Cond.selects (yX4_solveWithin).cls yX4_solveWithin yX4_solveWithin ∈ tr_tbl := ⟨tr_in 978 (by decide +kernel) rfl, tr_in 979 (by decide +kernel) rfl⟩
def mX4_solveWithin (p1 : Int32) (M : tr_M) : Option (tr_M) :=
  Option.bind (mX4_fillLeast M) (fun c1 =>
  Option.bind (some (tr_st c1 25 10 (1 : Int32))) (fun M3 =>
  Option.bind (mX4_fillBest p1 M3) (fun c5 =>
  some c5
  )
  )
  )
set_option maxRecDepth 100000 in
set_option maxHeartbeats 4000000 in
theorem C_X4_solveWithin (p1 : Int32) (M M' : tr_M) (h : mX4_solveWithin p1 M = some M') : tr_I yX4_solveWithin (xX4_solveWithin) [.ref 25, .int p1] M none M' := by
  refine tr_I.of (Z := fun q : tr_M => (none : Option Value) = none ∧ M' = q) pn_X4 rfl gdC (Nat.le_of_ble_eq_true rfl) (fun Wt => ?_) h ⟨rfl, rfl⟩
  unfold mX4_solveWithin
  refine tr_V.aload_n (i := 0) dX4_solveWithin_0 rfl rfl ?_
  refine tr_V.bd (fun c1 h2 => ?_)
  refine tr_V.callV (C_X4_fillLeast M _ h2) yk_X4_fillLeast iv_X4_fillLeast ml_X4_71 shC_25 rfl ⟨rfl, Nat.le_of_ble_eq_true rfl⟩ rfl (Nat.le_of_ble_eq_true rfl) rfl dX4_solveWithin_1 ?_
  refine tr_V.aload_n (i := 0) dX4_solveWithin_4 rfl rfl ?_
  refine tr_V.iconst (v := (1 : Int32)) dX4_solveWithin_5 (by decide) ?_
  refine tr_V.bd (fun M3 h4 => ?_)
  refine tr_V.putZ (by decide) fl_X4_46 shC_25 rfl dX4_solveWithin_6 h4 ?_
  refine tr_V.aload_n (i := 0) dX4_solveWithin_9 rfl rfl ?_
  refine tr_V.iload_n (i := 1) dX4_solveWithin_10 rfl rfl ?_
  refine tr_V.bd (fun c5 h6 => ?_)
  refine tr_V.callV (C_X4_fillBest p1 M3 _ h6) yk_X4_fillBest iv_X4_fillBest ml_X4_66 shC_25 rfl ⟨rfl, Nat.le_of_ble_eq_true rfl⟩ rfl (Nat.le_of_ble_eq_true rfl) rfl dX4_solveWithin_11 ?_
  exact tr_V.vret dX4_solveWithin_14 rfl (fun h => h)
abbrev xX4_pin : tr_X := (cX4_pin, 3, RX4, (Option.none : Option Jvm.ClassFile.FieldType), 1, shC, 81)
theorem cw_X4_pin : Cond.code yX4_pin cX4_pin 3 (Option.none : Option Jvm.ClassFile.FieldType) ∈ tr_tbl := tr_in 909 (by decide +kernel) rfl
theorem yk_X4_pin : tr_yk yX4_pin (xX4_pin) 2 := ⟨cw_X4_pin, in_X4, ⟨by decide +kernel, by decide +kernel, by decide +kernel⟩, Nat.le_of_ble_eq_true rfl⟩
theorem iv_X4_pin : Cond.instanceMethod yX4_pin ∈ tr_tbl ∧ Cond.selects (yX4_pin).cls yX4_pin yX4_pin ∈ tr_tbl := ⟨tr_in 907 (by decide +kernel) rfl, tr_in 908 (by decide +kernel) rfl⟩
def mX4_pin (p1 : Int32) (p2 : Int32) (M : tr_M) : Option (tr_M) :=
  Option.bind (some (tr_st M 25 13 p1)) (fun M1 =>
  Option.bind (some (tr_st M1 25 14 p2)) (fun M3 =>
  some M3
  )
  )
set_option maxRecDepth 100000 in
set_option maxHeartbeats 4000000 in
theorem C_X4_pin (p1 : Int32) (p2 : Int32) (M M' : tr_M) (h : mX4_pin p1 p2 M = some M') : tr_I yX4_pin (xX4_pin) [.ref 25, .int p1, .int p2] M none M' := by
  refine tr_I.of (Z := fun q : tr_M => (none : Option Value) = none ∧ M' = q) pn_X4 rfl gdC (Nat.le_of_ble_eq_true rfl) (fun Wt => ?_) h ⟨rfl, rfl⟩
  unfold mX4_pin
  refine tr_V.aload_n (i := 0) dX4_pin_0 rfl rfl ?_
  refine tr_V.iload_n (i := 1) dX4_pin_1 rfl rfl ?_
  refine tr_V.bd (fun M1 h2 => ?_)
  refine tr_V.putI fl_X4_56 shC_25 rfl dX4_pin_2 h2 ?_
  refine tr_V.aload_n (i := 0) dX4_pin_5 rfl rfl ?_
  refine tr_V.iload_n (i := 2) dX4_pin_6 rfl rfl ?_
  refine tr_V.bd (fun M3 h4 => ?_)
  refine tr_V.putI fl_X4_60 shC_25 rfl dX4_pin_7 h4 ?_
  exact tr_V.vret dX4_pin_10 rfl (fun h => h)
abbrev xX4_unpin : tr_X := (cX4_unpin, 1, RX4, (Option.none : Option Jvm.ClassFile.FieldType), 1, shC, 81)
theorem cw_X4_unpin : Cond.code yX4_unpin cX4_unpin 1 (Option.none : Option Jvm.ClassFile.FieldType) ∈ tr_tbl := tr_in 913 (by decide +kernel) rfl
theorem yk_X4_unpin : tr_yk yX4_unpin (xX4_unpin) 0 := ⟨cw_X4_unpin, in_X4, ⟨by decide +kernel, by decide +kernel, by decide +kernel⟩, Nat.le_of_ble_eq_true rfl⟩
theorem iv_X4_unpin : Cond.instanceMethod yX4_unpin ∈ tr_tbl ∧ Cond.selects (yX4_unpin).cls yX4_unpin yX4_unpin ∈ tr_tbl := ⟨tr_in 911 (by decide +kernel) rfl, tr_in 912 (by decide +kernel) rfl⟩
def mX4_unpin  (M : tr_M) : Option (tr_M) :=
  Option.bind (some (tr_st M 25 13 (-9 : Int32))) (fun M1 =>
  Option.bind (some (tr_st M1 25 14 (-9 : Int32))) (fun M3 =>
  some M3
  )
  )
set_option maxRecDepth 100000 in
set_option maxHeartbeats 4000000 in
theorem C_X4_unpin  (M M' : tr_M) (h : mX4_unpin M = some M') : tr_I yX4_unpin (xX4_unpin) [.ref 25] M none M' := by
  refine tr_I.of (Z := fun q : tr_M => (none : Option Value) = none ∧ M' = q) pn_X4 rfl gdC (Nat.le_of_ble_eq_true rfl) (fun Wt => ?_) h ⟨rfl, rfl⟩
  unfold mX4_unpin
  refine tr_V.aload_n (i := 0) dX4_unpin_0 rfl rfl ?_
  refine tr_V.bipush (v := (-9 : Int32)) dX4_unpin_1 (by decide) ?_
  refine tr_V.bd (fun M1 h2 => ?_)
  refine tr_V.putI fl_X4_56 shC_25 rfl dX4_unpin_3 h2 ?_
  refine tr_V.aload_n (i := 0) dX4_unpin_6 rfl rfl ?_
  refine tr_V.bipush (v := (-9 : Int32)) dX4_unpin_7 (by decide) ?_
  refine tr_V.bd (fun M3 h4 => ?_)
  refine tr_V.putI fl_X4_60 shC_25 rfl dX4_unpin_9 h4 ?_
  exact tr_V.vret dX4_unpin_12 rfl (fun h => h)
abbrev xX4_value : tr_X := (cX4_value, 1, RX4, (some .int), 1, shC, 81)
theorem cw_X4_value : Cond.code yX4_value cX4_value 1 (some .int) ∈ tr_tbl := tr_in 796 (by decide +kernel) rfl
theorem yk_X4_value : tr_yk yX4_value (xX4_value) 0 := ⟨cw_X4_value, in_X4, ⟨by decide +kernel, by decide +kernel, by decide +kernel⟩, Nat.le_of_ble_eq_true rfl⟩
def mX4_value  (M : tr_M) : Option (Int32) :=
  Option.bind (tr_rd 10240 M 48 (0 : Int32)) (fun a1 =>
  some a1
  )
set_option maxRecDepth 100000 in
set_option maxHeartbeats 4000000 in
theorem C_X4_value  (M : tr_M) (r : Int32) (h : mX4_value M = some r) : tr_I yX4_value (xX4_value) [.ref 25] M (some (.int r)) M := by
  refine tr_I.of (Z := fun q : Int32 => (some (.int r) : Option Value) = some (.int q) ∧ M = M) pn_X4 rfl gdC (Nat.le_of_ble_eq_true rfl) (fun Wt => ?_) h ⟨rfl, rfl⟩
  unfold mX4_value
  refine tr_V.aload_n (i := 0) dX4_value_0 rfl rfl ?_
  refine tr_V.getR (Nat.succ_pos _) fl_X4_28 shC_25 rfl dX4_value_1 ?_
  refine tr_V.iconst (v := (0 : Int32)) dX4_value_4 (by decide) ?_
  refine tr_V.bd (fun a1 h2 => ?_)
  refine tr_V.iald h2 shC_48 dX4_value_5 ?_
  exact tr_V.iret dX4_value_6 rfl (fun h => h)
abbrev xX4_number : tr_X := (cX4_number, 1, RX4, (some .int), 5, shC, 81)
theorem cw_X4_number : Cond.code yX4_number cX4_number 1 (some .int) ∈ tr_tbl := tr_in 833 (by decide +kernel) rfl
theorem yk_X4_number : tr_yk yX4_number (xX4_number) 0 := ⟨cw_X4_number, in_X4, ⟨by decide +kernel, by decide +kernel, by decide +kernel⟩, Nat.le_of_ble_eq_true rfl⟩
def mX4_number  (M : tr_M) : Option (Int32 × tr_M) :=
  Option.bind (mX4_fillLeast M) (fun c1 =>
  Option.bind (tr_rd 10240 c1 50 (0 : Int32)) (fun a3 =>
  some (a3, c1)
  )
  )
set_option maxRecDepth 100000 in
set_option maxHeartbeats 4000000 in
theorem C_X4_number  (M : tr_M) (r : Int32 × tr_M) (h : mX4_number M = some r) : tr_I yX4_number (xX4_number) [.ref 25] M (some (.int r.1)) r.2 := by
  refine tr_I.of (Z := fun q : Int32 × tr_M => (some (.int r.1) : Option Value) = some (.int q.1) ∧ r.2 = q.2) pn_X4 rfl gdC (Nat.le_of_ble_eq_true rfl) (fun Wt => ?_) h ⟨rfl, rfl⟩
  unfold mX4_number
  refine tr_V.aload_n (i := 0) dX4_number_0 rfl rfl ?_
  refine tr_V.bd (fun c1 h2 => ?_)
  refine tr_V.callV (C_X4_fillLeast M _ h2) yk_X4_fillLeast iv_X4_fillLeast ml_X4_71 shC_25 rfl ⟨rfl, Nat.le_of_ble_eq_true rfl⟩ rfl (Nat.le_of_ble_eq_true rfl) rfl dX4_number_1 ?_
  refine tr_V.aload_n (i := 0) dX4_number_4 rfl rfl ?_
  refine tr_V.getR (Nat.succ_pos _) fl_X4_34 shC_25 rfl dX4_number_5 ?_
  refine tr_V.iconst (v := (0 : Int32)) dX4_number_8 (by decide) ?_
  refine tr_V.bd (fun a3 h4 => ?_)
  refine tr_V.iald h4 shC_50 dX4_number_9 ?_
  exact tr_V.iret dX4_number_10 rfl (fun h => h)
abbrev xX4_pick : tr_X := (cX4_pick, 10, RX4, (Option.none : Option Jvm.ClassFile.FieldType), 5, shC, 81)
theorem cw_X4_pick : Cond.code yX4_pick cX4_pick 10 (Option.none : Option Jvm.ClassFile.FieldType) ∈ tr_tbl := tr_in 814 (by decide +kernel) rfl
theorem yk_X4_pick : tr_yk yX4_pick (xX4_pick) 2 := ⟨cw_X4_pick, in_X4, ⟨by decide +kernel, by decide +kernel, by decide +kernel⟩, Nat.le_of_ble_eq_true rfl⟩
def mX4_pick_l40 (s3 : Int32 × Int32 × Int32 × Int32 × tr_M) (c4 : Int32) (s7 : Int32 × Int32) : Option ((Int32 × Int32) ⊕ (Int32 × Int32)) :=
  if s7.2 < (s3.2.2.2.2.1 26 0) then (
    if ((c4 >>> (s7.2 &&& 31)) &&& (1 : Int32)) = 0 then (
      some (.inl (s7.1, (s7.2 + (1 : Int32))))
    ) else (
      Option.bind (tr_rd 10240 s3.2.2.2.2 50 (mX4_stateOf (s3.2.1 ||| ((1 : Int32) <<< (s7.2 &&& 31))) s7.2)) (fun a10 =>
      if s7.1 < a10 then (
        some (.inr (s7.1, s7.2))
      ) else (
        some (.inl ((s7.1 - a10), (s7.2 + (1 : Int32))))
      )
      )
    )
  ) else (
    some (.inr (s7.1, s3.2.2.1))
  )
def mX4_pick_l15 (p2 : Nat) (s3 : Int32 × Int32 × Int32 × Int32 × tr_M) : Option ((Int32 × Int32 × Int32 × Int32 × tr_M) ⊕ (tr_M)) :=
  if s3.2.2.2.1 < (s3.2.2.2.2.1 26 0) then (
    Option.bind (mX4_nextInLeast s3.2.1 s3.2.2.1 s3.2.2.2.2) (fun c4 =>
    Option.bind (show Option (Int32 × Int32) from
      tr_loop (mX4_pick_l40 s3 c4) (s3.1, (0 : Int32))
    ) (fun (v6 : Int32 × Int32) =>
      Option.bind (tr_wr (tr_len shC p2) s3.2.2.2.2 p2 s3.2.2.2.1 v6.2) (fun M12 =>
      Option.bind (some (s3.2.1 ||| ((1 : Int32) <<< (v6.2 &&& 31)))) (fun x14 =>
      some (.inl (v6.1, x14, v6.2, (s3.2.2.2.1 + (1 : Int32)), M12))
      )
      )
    )
    )
  ) else (
    some (.inr s3.2.2.2.2)
  )
def mX4_pick (p1 : Int32) (p2 : Nat) (M : tr_M) : Option (tr_M) :=
  Option.bind (mX4_fillLeast M) (fun c1 =>
  tr_loop (mX4_pick_l15 p2) (p1, (0 : Int32), (0 : Int32), (0 : Int32), c1)
  )
set_option maxRecDepth 100000 in
set_option maxHeartbeats 4000000 in
theorem C_X4_pick (p1 : Int32) (p2 : Nat) (M M' : tr_M) (h : mX4_pick p1 p2 M = some M') : tr_I yX4_pick (xX4_pick) [.ref 25, .int p1, .ref p2] M none M' := by
  refine tr_I.of (Z := fun q : tr_M => (none : Option Value) = none ∧ M' = q) pn_X4 rfl gdC (Nat.le_of_ble_eq_true rfl) (fun Wt => ?_) h ⟨rfl, rfl⟩
  unfold mX4_pick
  refine tr_V.aload_n (i := 0) dX4_pick_0 rfl rfl ?_
  refine tr_V.bd (fun c1 h2 => ?_)
  refine tr_V.callV (C_X4_fillLeast M _ h2) yk_X4_fillLeast iv_X4_fillLeast ml_X4_71 shC_25 rfl ⟨rfl, Nat.le_of_ble_eq_true rfl⟩ rfl (Nat.le_of_ble_eq_true rfl) rfl dX4_pick_1 ?_
  refine tr_V.iload_n (i := 1) dX4_pick_4 rfl rfl ?_
  refine tr_V.istore_n (i := 3) dX4_pick_5 rfl (Nat.le_of_ble_eq_true rfl) rfl ?_
  refine tr_V.iconst (v := (0 : Int32)) dX4_pick_6 (by decide) ?_
  refine tr_V.istore (i := 4) dX4_pick_7 (Nat.le_of_ble_eq_true rfl) rfl ?_
  refine tr_V.iconst (v := (0 : Int32)) dX4_pick_9 (by decide) ?_
  refine tr_V.istore (i := 5) dX4_pick_10 (Nat.le_of_ble_eq_true rfl) rfl ?_
  refine tr_V.iconst (v := (0 : Int32)) dX4_pick_12 (by decide) ?_
  refine tr_V.istore (i := 6) dX4_pick_13 (Nat.le_of_ble_eq_true rfl) rfl ?_
  refine tr_V.loop (σ := Int32 × Int32 × Int32 × Int32 × tr_M) (step := mX4_pick_l15 p2) (L := fun s3 => [(0, some (.ref 25)), (2, some (.ref p2)), (3, some (.int s3.1)), (4, some (.int s3.2.1)), (5, some (.int s3.2.2.1)), (6, some (.int s3.2.2.2.1))]) (Mf := fun s3 => s3.2.2.2.2) ?_ (p1, (0 : Int32), (0 : Int32), (0 : Int32), c1) ⟨rfl, rfl, rfl, rfl, rfl, rfl, trivial⟩
  intro s3
  refine tr_V.iload dX4_pick_15 rfl ?_
  refine tr_V.aload_n (i := 0) dX4_pick_17 rfl rfl ?_
  refine tr_V.getR (Nat.succ_pos _) fl_X4_12 shC_25 rfl dX4_pick_18 ?_
  refine tr_V.getI fl_X4_96 shC_26 rfl dX4_pick_21 ?_
  refine tr_V.icmp_ge (tgt := 129) dX4_pick_24 (by decide) ?_ ?_
  · refine tr_V.aload_n (i := 0) dX4_pick_27 rfl rfl ?_
    refine tr_V.iload dX4_pick_28 rfl ?_
    refine tr_V.iload dX4_pick_30 rfl ?_
    refine tr_V.bd (fun c4 h5 => ?_)
    refine tr_V.callV (C_X4_nextInLeast s3.2.1 s3.2.2.1 s3.2.2.2.2 _ h5) yk_X4_nextInLeast iv_X4_nextInLeast ml_X4_141 shC_25 rfl ⟨rfl, Nat.le_of_ble_eq_true rfl⟩ rfl (Nat.le_of_ble_eq_true rfl) rfl dX4_pick_32 ?_
    refine tr_V.istore (i := 7) dX4_pick_35 (Nat.le_of_ble_eq_true rfl) rfl ?_
    refine tr_V.iconst (v := (0 : Int32)) dX4_pick_37 (by decide) ?_
    refine tr_V.istore (i := 8) dX4_pick_38 (Nat.le_of_ble_eq_true rfl) rfl ?_
    refine tr_V.seq (τ := Int32 × Int32) (pc' := 108) (L := fun v6 => [(0, some (.ref 25)), (2, some (.ref p2)), (3, some (.int v6.1)), (4, some (.int s3.2.1)), (5, some (.int v6.2)), (6, some (.int s3.2.2.2.1))]) (S := fun v6 => []) (Mf := fun v6 => s3.2.2.2.2) ?_ ?_
    · refine tr_V.loop (σ := Int32 × Int32) (step := mX4_pick_l40 s3 c4) (L := fun s7 => [(0, some (.ref 25)), (2, some (.ref p2)), (3, some (.int s7.1)), (4, some (.int s3.2.1)), (5, some (.int s3.2.2.1)), (6, some (.int s3.2.2.2.1)), (7, some (.int c4)), (8, some (.int s7.2))]) (Mf := fun s7 => s3.2.2.2.2) ?_ (s3.1, (0 : Int32)) ⟨rfl, rfl, rfl, rfl, rfl, rfl, rfl, rfl, trivial⟩
      intro s7
      refine tr_V.iload dX4_pick_40 rfl ?_
      refine tr_V.aload_n (i := 0) dX4_pick_42 rfl rfl ?_
      refine tr_V.getR (Nat.succ_pos _) fl_X4_12 shC_25 rfl dX4_pick_43 ?_
      refine tr_V.getI fl_X4_96 shC_26 rfl dX4_pick_46 ?_
      refine tr_V.icmp_ge (tgt := 108) dX4_pick_49 (by decide) ?_ ?_
      · refine tr_V.iload dX4_pick_52 rfl ?_
        refine tr_V.iload dX4_pick_54 rfl ?_
        refine tr_V.ishr dX4_pick_56 ?_
        refine tr_V.iconst (v := (1 : Int32)) dX4_pick_57 (by decide) ?_
        refine tr_V.iand dX4_pick_58 ?_
        refine tr_V.if_ne (tgt := 65) dX4_pick_59 (by decide) ?_ ?_
        · refine tr_V.goto (tgt := 102) dX4_pick_62 (by decide) ?_
          refine tr_V.iinc (cst := (1 : Int32)) dX4_pick_102 rfl (by decide) rfl ?_
          refine tr_V.goto (tgt := 40) dX4_pick_105 (by decide) ?_
          exact tr_V.to (fun h => h) ⟨rfl, rfl, rfl, rfl, rfl, rfl, rfl, rfl, trivial⟩
        · refine tr_V.aload_n (i := 0) dX4_pick_65 rfl rfl ?_
          refine tr_V.getR (Nat.succ_pos _) fl_X4_34 shC_25 rfl dX4_pick_66 ?_
          refine tr_V.iload dX4_pick_69 rfl ?_
          refine tr_V.iconst (v := (1 : Int32)) dX4_pick_71 (by decide) ?_
          refine tr_V.iload dX4_pick_72 rfl ?_
          refine tr_V.ishl dX4_pick_74 ?_
          refine tr_V.ior dX4_pick_75 ?_
          refine tr_V.iload dX4_pick_76 rfl ?_
          refine tr_V.callS (C_X4_stateOf (s3.2.1 ||| ((1 : Int32) <<< (s7.2 &&& 31))) s7.2 s3.2.2.2.2) yk_X4_stateOf sc_X4_stateOf ml_X4_89 ⟨rfl, Nat.le_of_ble_eq_true rfl⟩ rfl (Nat.le_of_ble_eq_true rfl) rfl dX4_pick_78 ?_
          refine tr_V.bd (fun a10 h11 => ?_)
          refine tr_V.iald h11 shC_50 dX4_pick_81 ?_
          refine tr_V.istore (i := 9) dX4_pick_82 (Nat.le_of_ble_eq_true rfl) rfl ?_
          refine tr_V.iload_n (i := 3) dX4_pick_84 rfl rfl ?_
          refine tr_V.iload dX4_pick_85 rfl ?_
          refine tr_V.icmp_ge (tgt := 97) dX4_pick_87 (by decide) ?_ ?_
          · refine tr_V.iload dX4_pick_90 rfl ?_
            refine tr_V.istore (i := 5) dX4_pick_92 (Nat.le_of_ble_eq_true rfl) rfl ?_
            refine tr_V.goto (tgt := 108) dX4_pick_94 (by decide) ?_
            exact tr_V.to (fun h => h) ⟨rfl, rfl, rfl, rfl, rfl, rfl, trivial⟩
          · refine tr_V.iload_n (i := 3) dX4_pick_97 rfl rfl ?_
            refine tr_V.iload dX4_pick_98 rfl ?_
            refine tr_V.isub dX4_pick_100 ?_
            refine tr_V.istore_n (i := 3) dX4_pick_101 rfl (Nat.le_of_ble_eq_true rfl) rfl ?_
            refine tr_V.iinc (cst := (1 : Int32)) dX4_pick_102 rfl (by decide) rfl ?_
            refine tr_V.goto (tgt := 40) dX4_pick_105 (by decide) ?_
            exact tr_V.to (fun h => h) ⟨rfl, rfl, rfl, rfl, rfl, rfl, rfl, rfl, trivial⟩
      · exact tr_V.to (fun h => h) ⟨rfl, rfl, rfl, rfl, rfl, rfl, trivial⟩
    · intro v6
      refine tr_V.aload_n (i := 2) dX4_pick_108 rfl rfl ?_
      refine tr_V.iload dX4_pick_109 rfl ?_
      refine tr_V.iload dX4_pick_111 rfl ?_
      refine tr_V.bd (fun M12 h13 => ?_)
      refine tr_V.iastL h13 dX4_pick_113 ?_
      refine tr_V.iload dX4_pick_114 rfl ?_
      refine tr_V.iconst (v := (1 : Int32)) dX4_pick_116 (by decide) ?_
      refine tr_V.iload dX4_pick_117 rfl ?_
      refine tr_V.ishl dX4_pick_119 ?_
      refine tr_V.ior dX4_pick_120 ?_
      refine tr_V.bd (fun x14 h15 => ?_)
      refine tr_V.nmI h15 ?_
      refine tr_V.istore (i := 4) dX4_pick_121 (Nat.le_of_ble_eq_true rfl) rfl ?_
      refine tr_V.iinc (cst := (1 : Int32)) dX4_pick_123 rfl (by decide) rfl ?_
      refine tr_V.goto (tgt := 15) dX4_pick_126 (by decide) ?_
      exact tr_V.to (fun h => h) ⟨rfl, rfl, rfl, rfl, rfl, rfl, trivial⟩
  · exact tr_V.vret dX4_pick_129 rfl (fun h => h)
abbrev xX4_indexOf : tr_X := (cX4_indexOf, 9, RX4, (some .int), 5, shC, 81)
theorem cw_X4_indexOf : Cond.code yX4_indexOf cX4_indexOf 9 (some .int) ∈ tr_tbl := tr_in 846 (by decide +kernel) rfl
theorem yk_X4_indexOf : tr_yk yX4_indexOf (xX4_indexOf) 1 := ⟨cw_X4_indexOf, in_X4, ⟨by decide +kernel, by decide +kernel, by decide +kernel⟩, Nat.le_of_ble_eq_true rfl⟩
def mX4_indexOf_l57 (c1 : tr_M) (s3 : Int32 × Int32 × Int32 × Int32) (c4 : Int32) (a6 : Int32) (s9 : Int32 × Int32) : Option ((Int32 × Int32) ⊕ (Int32)) :=
  if s9.2 < a6 then (
    if ((c4 >>> (s9.2 &&& 31)) &&& (1 : Int32)) = 0 then (
      some (.inl (s9.1, (s9.2 + (1 : Int32))))
    ) else (
      Option.bind (tr_rd 10240 c1 50 (mX4_stateOf (s3.2.1 ||| ((1 : Int32) <<< (s9.2 &&& 31))) s9.2)) (fun a12 =>
      some (.inl ((s9.1 + a12), (s9.2 + (1 : Int32))))
      )
    )
  ) else (
    some (.inr s9.1)
  )
def mX4_indexOf_l14 (p1 : Nat) (c1 : tr_M) (s3 : Int32 × Int32 × Int32 × Int32) : Option ((Int32 × Int32 × Int32 × Int32) ⊕ (Int32 × tr_M)) :=
  if s3.2.2.2 < (c1.1 26 0) then (
    Option.bind (mX4_nextInLeast s3.2.1 s3.2.2.1 c1) (fun c4 =>
    Option.bind (tr_rd (tr_len shC p1) c1 p1 s3.2.2.2) (fun a6 =>
    if ((c4 >>> (a6 &&& 31)) &&& (1 : Int32)) = 0 then (
      some (.inr ((-9 : Int32), c1))
    ) else (
      Option.bind (show Option (Int32) from
        tr_loop (mX4_indexOf_l57 c1 s3 c4 a6) (s3.1, (0 : Int32))
      ) (fun (v8 : Int32) =>
        Option.bind (some (s3.2.1 ||| ((1 : Int32) <<< (a6 &&& 31)))) (fun x14 =>
        some (.inl (v8, x14, a6, (s3.2.2.2 + (1 : Int32))))
        )
      )
    )
    )
    )
  ) else (
    some (.inr (s3.1, c1))
  )
def mX4_indexOf (p1 : Nat) (M : tr_M) : Option (Int32 × tr_M) :=
  Option.bind (mX4_fillLeast M) (fun c1 =>
  tr_loop (mX4_indexOf_l14 p1 c1) ((0 : Int32), (0 : Int32), (0 : Int32), (0 : Int32))
  )
set_option maxRecDepth 100000 in
set_option maxHeartbeats 4000000 in
theorem C_X4_indexOf (p1 : Nat) (M : tr_M) (r : Int32 × tr_M) (h : mX4_indexOf p1 M = some r) : tr_I yX4_indexOf (xX4_indexOf) [.ref 25, .ref p1] M (some (.int r.1)) r.2 := by
  refine tr_I.of (Z := fun q : Int32 × tr_M => (some (.int r.1) : Option Value) = some (.int q.1) ∧ r.2 = q.2) pn_X4 rfl gdC (Nat.le_of_ble_eq_true rfl) (fun Wt => ?_) h ⟨rfl, rfl⟩
  unfold mX4_indexOf
  refine tr_V.aload_n (i := 0) dX4_indexOf_0 rfl rfl ?_
  refine tr_V.bd (fun c1 h2 => ?_)
  refine tr_V.callV (C_X4_fillLeast M _ h2) yk_X4_fillLeast iv_X4_fillLeast ml_X4_71 shC_25 rfl ⟨rfl, Nat.le_of_ble_eq_true rfl⟩ rfl (Nat.le_of_ble_eq_true rfl) rfl dX4_indexOf_1 ?_
  refine tr_V.iconst (v := (0 : Int32)) dX4_indexOf_4 (by decide) ?_
  refine tr_V.istore_n (i := 2) dX4_indexOf_5 rfl (Nat.le_of_ble_eq_true rfl) rfl ?_
  refine tr_V.iconst (v := (0 : Int32)) dX4_indexOf_6 (by decide) ?_
  refine tr_V.istore_n (i := 3) dX4_indexOf_7 rfl (Nat.le_of_ble_eq_true rfl) rfl ?_
  refine tr_V.iconst (v := (0 : Int32)) dX4_indexOf_8 (by decide) ?_
  refine tr_V.istore (i := 4) dX4_indexOf_9 (Nat.le_of_ble_eq_true rfl) rfl ?_
  refine tr_V.iconst (v := (0 : Int32)) dX4_indexOf_11 (by decide) ?_
  refine tr_V.istore (i := 5) dX4_indexOf_12 (Nat.le_of_ble_eq_true rfl) rfl ?_
  refine tr_V.loop (σ := Int32 × Int32 × Int32 × Int32) (step := mX4_indexOf_l14 p1 c1) (L := fun s3 => [(0, some (.ref 25)), (1, some (.ref p1)), (2, some (.int s3.1)), (3, some (.int s3.2.1)), (4, some (.int s3.2.2.1)), (5, some (.int s3.2.2.2))]) (Mf := fun s3 => c1) ?_ ((0 : Int32), (0 : Int32), (0 : Int32), (0 : Int32)) ⟨rfl, rfl, rfl, rfl, rfl, rfl, trivial⟩
  intro s3
  refine tr_V.iload dX4_indexOf_14 rfl ?_
  refine tr_V.aload_n (i := 0) dX4_indexOf_16 rfl rfl ?_
  refine tr_V.getR (Nat.succ_pos _) fl_X4_12 shC_25 rfl dX4_indexOf_17 ?_
  refine tr_V.getI fl_X4_96 shC_26 rfl dX4_indexOf_20 ?_
  refine tr_V.icmp_ge (tgt := 116) dX4_indexOf_23 (by decide) ?_ ?_
  · refine tr_V.aload_n (i := 0) dX4_indexOf_26 rfl rfl ?_
    refine tr_V.iload_n (i := 3) dX4_indexOf_27 rfl rfl ?_
    refine tr_V.iload dX4_indexOf_28 rfl ?_
    refine tr_V.bd (fun c4 h5 => ?_)
    refine tr_V.callV (C_X4_nextInLeast s3.2.1 s3.2.2.1 c1 _ h5) yk_X4_nextInLeast iv_X4_nextInLeast ml_X4_141 shC_25 rfl ⟨rfl, Nat.le_of_ble_eq_true rfl⟩ rfl (Nat.le_of_ble_eq_true rfl) rfl dX4_indexOf_30 ?_
    refine tr_V.istore (i := 6) dX4_indexOf_33 (Nat.le_of_ble_eq_true rfl) rfl ?_
    refine tr_V.aload_n (i := 1) dX4_indexOf_35 rfl rfl ?_
    refine tr_V.iload dX4_indexOf_36 rfl ?_
    refine tr_V.bd (fun a6 h7 => ?_)
    refine tr_V.ialdL h7 dX4_indexOf_38 ?_
    refine tr_V.istore (i := 7) dX4_indexOf_39 (Nat.le_of_ble_eq_true rfl) rfl ?_
    refine tr_V.iload dX4_indexOf_41 rfl ?_
    refine tr_V.iload dX4_indexOf_43 rfl ?_
    refine tr_V.ishr dX4_indexOf_45 ?_
    refine tr_V.iconst (v := (1 : Int32)) dX4_indexOf_46 (by decide) ?_
    refine tr_V.iand dX4_indexOf_47 ?_
    refine tr_V.if_ne (tgt := 54) dX4_indexOf_48 (by decide) ?_ ?_
    · refine tr_V.bipush (v := (-9 : Int32)) dX4_indexOf_51 (by decide) ?_
      exact tr_V.iret dX4_indexOf_53 rfl (fun h => h)
    · refine tr_V.iconst (v := (0 : Int32)) dX4_indexOf_54 (by decide) ?_
      refine tr_V.istore (i := 8) dX4_indexOf_55 (Nat.le_of_ble_eq_true rfl) rfl ?_
      refine tr_V.seq (τ := Int32) (pc' := 99) (L := fun v8 => [(0, some (.ref 25)), (1, some (.ref p1)), (2, some (.int v8)), (3, some (.int s3.2.1)), (5, some (.int s3.2.2.2)), (7, some (.int a6))]) (S := fun v8 => []) (Mf := fun v8 => c1) ?_ ?_
      · refine tr_V.loop (σ := Int32 × Int32) (step := mX4_indexOf_l57 c1 s3 c4 a6) (L := fun s9 => [(0, some (.ref 25)), (1, some (.ref p1)), (2, some (.int s9.1)), (3, some (.int s3.2.1)), (5, some (.int s3.2.2.2)), (6, some (.int c4)), (7, some (.int a6)), (8, some (.int s9.2))]) (Mf := fun s9 => c1) ?_ (s3.1, (0 : Int32)) ⟨rfl, rfl, rfl, rfl, rfl, rfl, rfl, rfl, trivial⟩
        intro s9
        refine tr_V.iload dX4_indexOf_57 rfl ?_
        refine tr_V.iload dX4_indexOf_59 rfl ?_
        refine tr_V.icmp_ge (tgt := 99) dX4_indexOf_61 (by decide) ?_ ?_
        · refine tr_V.iload dX4_indexOf_64 rfl ?_
          refine tr_V.iload dX4_indexOf_66 rfl ?_
          refine tr_V.ishr dX4_indexOf_68 ?_
          refine tr_V.iconst (v := (1 : Int32)) dX4_indexOf_69 (by decide) ?_
          refine tr_V.iand dX4_indexOf_70 ?_
          refine tr_V.if_eq (tgt := 93) dX4_indexOf_71 (by decide) ?_ ?_
          · refine tr_V.iinc (cst := (1 : Int32)) dX4_indexOf_93 rfl (by decide) rfl ?_
            refine tr_V.goto (tgt := 57) dX4_indexOf_96 (by decide) ?_
            exact tr_V.to (fun h => h) ⟨rfl, rfl, rfl, rfl, rfl, rfl, rfl, rfl, trivial⟩
          · refine tr_V.iload_n (i := 2) dX4_indexOf_74 rfl rfl ?_
            refine tr_V.aload_n (i := 0) dX4_indexOf_75 rfl rfl ?_
            refine tr_V.getR (Nat.succ_pos _) fl_X4_34 shC_25 rfl dX4_indexOf_76 ?_
            refine tr_V.iload_n (i := 3) dX4_indexOf_79 rfl rfl ?_
            refine tr_V.iconst (v := (1 : Int32)) dX4_indexOf_80 (by decide) ?_
            refine tr_V.iload dX4_indexOf_81 rfl ?_
            refine tr_V.ishl dX4_indexOf_83 ?_
            refine tr_V.ior dX4_indexOf_84 ?_
            refine tr_V.iload dX4_indexOf_85 rfl ?_
            refine tr_V.callS (C_X4_stateOf (s3.2.1 ||| ((1 : Int32) <<< (s9.2 &&& 31))) s9.2 c1) yk_X4_stateOf sc_X4_stateOf ml_X4_89 ⟨rfl, Nat.le_of_ble_eq_true rfl⟩ rfl (Nat.le_of_ble_eq_true rfl) rfl dX4_indexOf_87 ?_
            refine tr_V.bd (fun a12 h13 => ?_)
            refine tr_V.iald h13 shC_50 dX4_indexOf_90 ?_
            refine tr_V.iadd dX4_indexOf_91 ?_
            refine tr_V.istore_n (i := 2) dX4_indexOf_92 rfl (Nat.le_of_ble_eq_true rfl) rfl ?_
            refine tr_V.iinc (cst := (1 : Int32)) dX4_indexOf_93 rfl (by decide) rfl ?_
            refine tr_V.goto (tgt := 57) dX4_indexOf_96 (by decide) ?_
            exact tr_V.to (fun h => h) ⟨rfl, rfl, rfl, rfl, rfl, rfl, rfl, rfl, trivial⟩
        · exact tr_V.to (fun h => h) ⟨rfl, rfl, rfl, rfl, rfl, rfl, trivial⟩
      · intro v8
        refine tr_V.iload dX4_indexOf_99 rfl ?_
        refine tr_V.istore (i := 4) dX4_indexOf_101 (Nat.le_of_ble_eq_true rfl) rfl ?_
        refine tr_V.iload_n (i := 3) dX4_indexOf_103 rfl rfl ?_
        refine tr_V.iconst (v := (1 : Int32)) dX4_indexOf_104 (by decide) ?_
        refine tr_V.iload dX4_indexOf_105 rfl ?_
        refine tr_V.ishl dX4_indexOf_107 ?_
        refine tr_V.ior dX4_indexOf_108 ?_
        refine tr_V.bd (fun x14 h15 => ?_)
        refine tr_V.nmI h15 ?_
        refine tr_V.istore_n (i := 3) dX4_indexOf_109 rfl (Nat.le_of_ble_eq_true rfl) rfl ?_
        refine tr_V.iinc (cst := (1 : Int32)) dX4_indexOf_110 rfl (by decide) rfl ?_
        refine tr_V.goto (tgt := 14) dX4_indexOf_113 (by decide) ?_
        exact tr_V.to (fun h => h) ⟨rfl, rfl, rfl, rfl, rfl, rfl, trivial⟩
  · refine tr_V.iload_n (i := 2) dX4_indexOf_116 rfl rfl ?_
    exact tr_V.iret dX4_indexOf_117 rfl (fun h => h)
abbrev xX4_comeOnFrom : tr_X := (cX4_comeOnFrom, 5, RX4, (Option.none : Option Jvm.ClassFile.FieldType), 3, shC, 81)
theorem cw_X4_comeOnFrom : Cond.code yX4_comeOnFrom cX4_comeOnFrom 5 (Option.none : Option Jvm.ClassFile.FieldType) ∈ tr_tbl := tr_in 938 (by decide +kernel) rfl
theorem yk_X4_comeOnFrom : tr_yk yX4_comeOnFrom (xX4_comeOnFrom) 2 := ⟨cw_X4_comeOnFrom, in_X4, ⟨by decide +kernel, by decide +kernel, by decide +kernel⟩, Nat.le_of_ble_eq_true rfl⟩
theorem iv_X4_comeOnFrom : Cond.instanceMethod yX4_comeOnFrom ∈ tr_tbl ∧ Cond.selects (yX4_comeOnFrom).cls yX4_comeOnFrom yX4_comeOnFrom ∈ tr_tbl := ⟨tr_in 937 (by decide +kernel) rfl, tr_in 41 (by decide +kernel) rfl⟩
def mX4_comeOnFrom_l10 (p1 : Int32) (p2 : Int32) (c1 : Int32) (s3 : Int32 × tr_M) : Option ((Int32 × tr_M) ⊕ (tr_M)) :=
  if s3.1 < (s3.2.1 26 0) then (
    if ((c1 >>> (s3.1 &&& 31)) &&& (1 : Int32)) = 0 then (
      some (.inl ((s3.1 + (1 : Int32)), s3.2))
    ) else (
      Option.bind (tr_rd 10240 s3.2 51 (mX4_stateOf (p1 ||| ((1 : Int32) <<< (s3.1 &&& 31))) s3.1)) (fun a6 =>
      Option.bind (tr_rd 10240 s3.2 51 (mX4_stateOf p1 p2)) (fun a10 =>
      Option.bind (tr_wr 10240 s3.2 51 (mX4_stateOf (p1 ||| ((1 : Int32) <<< (s3.1 &&& 31))) s3.1) (a6 + a10)) (fun M12 =>
      some (.inl ((s3.1 + (1 : Int32)), M12))
      )
      )
      )
    )
  ) else (
    some (.inr s3.2)
  )
def mX4_comeOnFrom (p1 : Int32) (p2 : Int32) (M : tr_M) : Option (tr_M) :=
  Option.bind (mX4_nextInLeast p1 p2 M) (fun c1 =>
  tr_loop (mX4_comeOnFrom_l10 p1 p2 c1) ((0 : Int32), M)
  )
set_option maxRecDepth 100000 in
set_option maxHeartbeats 4000000 in
theorem C_X4_comeOnFrom (p1 : Int32) (p2 : Int32) (M M' : tr_M) (h : mX4_comeOnFrom p1 p2 M = some M') : tr_I yX4_comeOnFrom (xX4_comeOnFrom) [.ref 25, .int p1, .int p2] M none M' := by
  refine tr_I.of (Z := fun q : tr_M => (none : Option Value) = none ∧ M' = q) pn_X4 rfl gdC (Nat.le_of_ble_eq_true rfl) (fun Wt => ?_) h ⟨rfl, rfl⟩
  unfold mX4_comeOnFrom
  refine tr_V.aload_n (i := 0) dX4_comeOnFrom_0 rfl rfl ?_
  refine tr_V.iload_n (i := 1) dX4_comeOnFrom_1 rfl rfl ?_
  refine tr_V.iload_n (i := 2) dX4_comeOnFrom_2 rfl rfl ?_
  refine tr_V.bd (fun c1 h2 => ?_)
  refine tr_V.callV (C_X4_nextInLeast p1 p2 M _ h2) yk_X4_nextInLeast iv_X4_nextInLeast ml_X4_141 shC_25 rfl ⟨rfl, Nat.le_of_ble_eq_true rfl⟩ rfl (Nat.le_of_ble_eq_true rfl) rfl dX4_comeOnFrom_3 ?_
  refine tr_V.istore_n (i := 3) dX4_comeOnFrom_6 rfl (Nat.le_of_ble_eq_true rfl) rfl ?_
  refine tr_V.iconst (v := (0 : Int32)) dX4_comeOnFrom_7 (by decide) ?_
  refine tr_V.istore (i := 4) dX4_comeOnFrom_8 (Nat.le_of_ble_eq_true rfl) rfl ?_
  refine tr_V.loop (σ := Int32 × tr_M) (step := mX4_comeOnFrom_l10 p1 p2 c1) (L := fun s3 => [(0, some (.ref 25)), (1, some (.int p1)), (2, some (.int p2)), (3, some (.int c1)), (4, some (.int s3.1))]) (Mf := fun s3 => s3.2) ?_ ((0 : Int32), M) ⟨rfl, rfl, rfl, rfl, rfl, trivial⟩
  intro s3
  refine tr_V.iload dX4_comeOnFrom_10 rfl ?_
  refine tr_V.aload_n (i := 0) dX4_comeOnFrom_12 rfl rfl ?_
  refine tr_V.getR (Nat.succ_pos _) fl_X4_12 shC_25 rfl dX4_comeOnFrom_13 ?_
  refine tr_V.getI fl_X4_96 shC_26 rfl dX4_comeOnFrom_16 ?_
  refine tr_V.icmp_ge (tgt := 66) dX4_comeOnFrom_19 (by decide) ?_ ?_
  · refine tr_V.iload_n (i := 3) dX4_comeOnFrom_22 rfl rfl ?_
    refine tr_V.iload dX4_comeOnFrom_23 rfl ?_
    refine tr_V.ishr dX4_comeOnFrom_25 ?_
    refine tr_V.iconst (v := (1 : Int32)) dX4_comeOnFrom_26 (by decide) ?_
    refine tr_V.iand dX4_comeOnFrom_27 ?_
    refine tr_V.if_eq (tgt := 60) dX4_comeOnFrom_28 (by decide) ?_ ?_
    · refine tr_V.iinc (cst := (1 : Int32)) dX4_comeOnFrom_60 rfl (by decide) rfl ?_
      refine tr_V.goto (tgt := 10) dX4_comeOnFrom_63 (by decide) ?_
      exact tr_V.to (fun h => h) ⟨rfl, rfl, rfl, rfl, rfl, trivial⟩
    · refine tr_V.aload_n (i := 0) dX4_comeOnFrom_31 rfl rfl ?_
      refine tr_V.getR (Nat.succ_pos _) fl_X4_37 shC_25 rfl dX4_comeOnFrom_32 ?_
      refine tr_V.iload_n (i := 1) dX4_comeOnFrom_35 rfl rfl ?_
      refine tr_V.iconst (v := (1 : Int32)) dX4_comeOnFrom_36 (by decide) ?_
      refine tr_V.iload dX4_comeOnFrom_37 rfl ?_
      refine tr_V.ishl dX4_comeOnFrom_39 ?_
      refine tr_V.ior dX4_comeOnFrom_40 ?_
      refine tr_V.iload dX4_comeOnFrom_41 rfl ?_
      refine tr_V.callS (C_X4_stateOf (p1 ||| ((1 : Int32) <<< (s3.1 &&& 31))) s3.1 s3.2) yk_X4_stateOf sc_X4_stateOf ml_X4_89 ⟨rfl, Nat.le_of_ble_eq_true rfl⟩ rfl (Nat.le_of_ble_eq_true rfl) rfl dX4_comeOnFrom_43 ?_
      refine tr_V.dup2 rfl rfl dX4_comeOnFrom_46 ?_
      refine tr_V.bd (fun a6 h7 => ?_)
      refine tr_V.iald h7 shC_51 dX4_comeOnFrom_47 ?_
      refine tr_V.aload_n (i := 0) dX4_comeOnFrom_48 rfl rfl ?_
      refine tr_V.getR (Nat.succ_pos _) fl_X4_37 shC_25 rfl dX4_comeOnFrom_49 ?_
      refine tr_V.iload_n (i := 1) dX4_comeOnFrom_52 rfl rfl ?_
      refine tr_V.iload_n (i := 2) dX4_comeOnFrom_53 rfl rfl ?_
      refine tr_V.callS (C_X4_stateOf p1 p2 s3.2) yk_X4_stateOf sc_X4_stateOf ml_X4_89 ⟨rfl, Nat.le_of_ble_eq_true rfl⟩ rfl (Nat.le_of_ble_eq_true rfl) rfl dX4_comeOnFrom_54 ?_
      refine tr_V.bd (fun a10 h11 => ?_)
      refine tr_V.iald h11 shC_51 dX4_comeOnFrom_57 ?_
      refine tr_V.iadd dX4_comeOnFrom_58 ?_
      refine tr_V.bd (fun M12 h13 => ?_)
      refine tr_V.iast h13 shC_51 dX4_comeOnFrom_59 ?_
      refine tr_V.iinc (cst := (1 : Int32)) dX4_comeOnFrom_60 rfl (by decide) rfl ?_
      refine tr_V.goto (tgt := 10) dX4_comeOnFrom_63 (by decide) ?_
      exact tr_V.to (fun h => h) ⟨rfl, rfl, rfl, rfl, rfl, trivial⟩
  · exact tr_V.vret dX4_comeOnFrom_66 rfl (fun h => h)
abbrev xX4_fillComing : tr_X := (cX4_fillComing, 3, RX4, (Option.none : Option Jvm.ClassFile.FieldType), 5, shC, 81)
theorem cw_X4_fillComing : Cond.code yX4_fillComing cX4_fillComing 3 (Option.none : Option Jvm.ClassFile.FieldType) ∈ tr_tbl := tr_in 933 (by decide +kernel) rfl
theorem yk_X4_fillComing : tr_yk yX4_fillComing (xX4_fillComing) 0 := ⟨cw_X4_fillComing, in_X4, ⟨by decide +kernel, by decide +kernel, by decide +kernel⟩, Nat.le_of_ble_eq_true rfl⟩
theorem iv_X4_fillComing : Cond.instanceMethod yX4_fillComing ∈ tr_tbl ∧ Cond.selects (yX4_fillComing).cls yX4_fillComing yX4_fillComing ∈ tr_tbl := ⟨tr_in 932 (by decide +kernel) rfl, tr_in 40 (by decide +kernel) rfl⟩
def mX4_fillComing_l48 (s11 : Int32 × tr_M) (s14 : Int32 × tr_M) : Option ((Int32 × tr_M) ⊕ ((Int32 × tr_M) ⊕ (tr_M))) :=
  if s14.1 < (mX4_lastsOf s11.1 s14.2) then (
    if (mX4_isState s11.1 s14.1) = 0 then (
      some (.inl ((s14.1 + (1 : Int32)), s14.2))
    ) else (
      Option.bind (tr_rd 10240 s14.2 51 (mX4_stateOf s11.1 s14.1)) (fun a21 =>
      if 0 < a21 then (
        Option.bind (mX4_comeOnFrom s11.1 s14.1 s14.2) (fun c23 =>
        some (.inl ((s14.1 + (1 : Int32)), c23))
        )
      ) else (
        some (.inl ((s14.1 + (1 : Int32)), s14.2))
      )
      )
    )
  ) else (
    some (.inr (.inl ((s11.1 + (1 : Int32)), s14.2)))
  )
def mX4_fillComing_l35  (s11 : Int32 × tr_M) : Option ((Int32 × tr_M) ⊕ (tr_M)) :=
  if s11.1 < (mX5_everything 26 s11.2) then (
    tr_loop (mX4_fillComing_l48 s11) ((0 : Int32), s11.2)
  ) else (
    some (.inr s11.2)
  )
def mX4_fillComing  (M : tr_M) : Option (tr_M) :=
  Option.bind (mX4_fillLeast M) (fun c1 =>
  Option.bind (mJ7_fill_fda19 shC 51 (0 : Int32) (mX4_stateOf ((mX5_everything 26 c1) + (1 : Int32)) (0 : Int32)) (0 : Int32) c1) (fun c7 =>
  Option.bind (tr_wr 10240 c7 51 (0 : Int32) (1 : Int32)) (fun M9 =>
  tr_loop (mX4_fillComing_l35) ((0 : Int32), M9)
  )
  )
  )
set_option maxRecDepth 100000 in
set_option maxHeartbeats 4000000 in
theorem C_X4_fillComing  (M M' : tr_M) (h : mX4_fillComing M = some M') : tr_I yX4_fillComing (xX4_fillComing) [.ref 25] M none M' := by
  refine tr_I.of (Z := fun q : tr_M => (none : Option Value) = none ∧ M' = q) pn_X4 rfl gdC (Nat.le_of_ble_eq_true rfl) (fun Wt => ?_) h ⟨rfl, rfl⟩
  unfold mX4_fillComing
  refine tr_V.aload_n (i := 0) dX4_fillComing_0 rfl rfl ?_
  refine tr_V.bd (fun c1 h2 => ?_)
  refine tr_V.callV (C_X4_fillLeast M _ h2) yk_X4_fillLeast iv_X4_fillLeast ml_X4_71 shC_25 rfl ⟨rfl, Nat.le_of_ble_eq_true rfl⟩ rfl (Nat.le_of_ble_eq_true rfl) rfl dX4_fillComing_1 ?_
  refine tr_V.aload_n (i := 0) dX4_fillComing_4 rfl rfl ?_
  refine tr_V.getR (Nat.succ_pos _) fl_X4_37 shC_25 rfl dX4_fillComing_5 ?_
  refine tr_V.iconst (v := (0 : Int32)) dX4_fillComing_8 (by decide) ?_
  refine tr_V.aload_n (i := 0) dX4_fillComing_9 rfl rfl ?_
  refine tr_V.getR (Nat.succ_pos _) fl_X4_12 shC_25 rfl dX4_fillComing_10 ?_
  refine tr_V.callV (C_X5_everything 26 isW_26 c1) yk_X5_everything iv_X5_everything ml_X4_77 shC_26 rfl ⟨rfl, Nat.le_of_ble_eq_true rfl⟩ rfl (Nat.le_of_ble_eq_true rfl) rfl dX4_fillComing_13 ?_
  refine tr_V.iconst (v := (1 : Int32)) dX4_fillComing_16 (by decide) ?_
  refine tr_V.iadd dX4_fillComing_17 ?_
  refine tr_V.iconst (v := (0 : Int32)) dX4_fillComing_18 (by decide) ?_
  refine tr_V.callS (C_X4_stateOf ((mX5_everything 26 c1) + (1 : Int32)) (0 : Int32) c1) yk_X4_stateOf sc_X4_stateOf ml_X4_89 ⟨rfl, Nat.le_of_ble_eq_true rfl⟩ rfl (Nat.le_of_ble_eq_true rfl) rfl dX4_fillComing_19 ?_
  refine tr_V.iconst (v := (0 : Int32)) dX4_fillComing_22 (by decide) ?_
  refine tr_V.bd (fun c7 h8 => ?_)
  refine tr_V.callS (C_J7_fill_fda19 shC 81 gdC 51 (0 : Int32) (mX4_stateOf ((mX5_everything 26 c1) + (1 : Int32)) (0 : Int32)) (0 : Int32) c1 _ h8) yk_J7_fill_fda19 sc_J7_fill_fda19 ml_X4_156 ⟨rfl, Nat.le_of_ble_eq_true rfl⟩ rfl (Nat.le_of_ble_eq_true rfl) rfl dX4_fillComing_23 ?_
  refine tr_V.aload_n (i := 0) dX4_fillComing_26 rfl rfl ?_
  refine tr_V.getR (Nat.succ_pos _) fl_X4_37 shC_25 rfl dX4_fillComing_27 ?_
  refine tr_V.iconst (v := (0 : Int32)) dX4_fillComing_30 (by decide) ?_
  refine tr_V.iconst (v := (1 : Int32)) dX4_fillComing_31 (by decide) ?_
  refine tr_V.bd (fun M9 h10 => ?_)
  refine tr_V.iast h10 shC_51 dX4_fillComing_32 ?_
  refine tr_V.iconst (v := (0 : Int32)) dX4_fillComing_33 (by decide) ?_
  refine tr_V.istore_n (i := 1) dX4_fillComing_34 rfl (Nat.le_of_ble_eq_true rfl) rfl ?_
  refine tr_V.loop (σ := Int32 × tr_M) (step := mX4_fillComing_l35) (L := fun s11 => [(0, some (.ref 25)), (1, some (.int s11.1))]) (Mf := fun s11 => s11.2) ?_ ((0 : Int32), M9) ⟨rfl, rfl, trivial⟩
  intro s11
  refine tr_V.iload_n (i := 1) dX4_fillComing_35 rfl rfl ?_
  refine tr_V.aload_n (i := 0) dX4_fillComing_36 rfl rfl ?_
  refine tr_V.getR (Nat.succ_pos _) fl_X4_12 shC_25 rfl dX4_fillComing_37 ?_
  refine tr_V.callV (C_X5_everything 26 isW_26 s11.2) yk_X5_everything iv_X5_everything ml_X4_77 shC_26 rfl ⟨rfl, Nat.le_of_ble_eq_true rfl⟩ rfl (Nat.le_of_ble_eq_true rfl) rfl dX4_fillComing_40 ?_
  refine tr_V.icmp_ge (tgt := 96) dX4_fillComing_43 (by decide) ?_ ?_
  · refine tr_V.iconst (v := (0 : Int32)) dX4_fillComing_46 (by decide) ?_
    refine tr_V.istore_n (i := 2) dX4_fillComing_47 rfl (Nat.le_of_ble_eq_true rfl) rfl ?_
    refine tr_V.loop (σ := Int32 × tr_M) (step := mX4_fillComing_l48 s11) (L := fun s14 => [(0, some (.ref 25)), (1, some (.int s11.1)), (2, some (.int s14.1))]) (Mf := fun s14 => s14.2) ?_ ((0 : Int32), s11.2) ⟨rfl, rfl, rfl, trivial⟩
    intro s14
    refine tr_V.iload_n (i := 2) dX4_fillComing_48 rfl rfl ?_
    refine tr_V.aload_n (i := 0) dX4_fillComing_49 rfl rfl ?_
    refine tr_V.iload_n (i := 1) dX4_fillComing_50 rfl rfl ?_
    refine tr_V.callV (C_X4_lastsOf s11.1 s14.2) yk_X4_lastsOf iv_X4_lastsOf ml_X4_81 shC_25 rfl ⟨rfl, Nat.le_of_ble_eq_true rfl⟩ rfl (Nat.le_of_ble_eq_true rfl) rfl dX4_fillComing_51 ?_
    refine tr_V.icmp_ge (tgt := 90) dX4_fillComing_54 (by decide) ?_ ?_
    · refine tr_V.iload_n (i := 1) dX4_fillComing_57 rfl rfl ?_
      refine tr_V.iload_n (i := 2) dX4_fillComing_58 rfl rfl ?_
      refine tr_V.callS (C_X4_isState s11.1 s14.1 s14.2) yk_X4_isState sc_X4_isState ml_X4_85 ⟨rfl, Nat.le_of_ble_eq_true rfl⟩ rfl (Nat.le_of_ble_eq_true rfl) rfl dX4_fillComing_59 ?_
      refine tr_V.if_eq (tgt := 84) dX4_fillComing_62 (by decide) ?_ ?_
      · refine tr_V.iinc (cst := (1 : Int32)) dX4_fillComing_84 rfl (by decide) rfl ?_
        refine tr_V.goto (tgt := 48) dX4_fillComing_87 (by decide) ?_
        exact tr_V.to (fun h => h) ⟨rfl, rfl, rfl, trivial⟩
      · refine tr_V.aload_n (i := 0) dX4_fillComing_65 rfl rfl ?_
        refine tr_V.getR (Nat.succ_pos _) fl_X4_37 shC_25 rfl dX4_fillComing_66 ?_
        refine tr_V.iload_n (i := 1) dX4_fillComing_69 rfl rfl ?_
        refine tr_V.iload_n (i := 2) dX4_fillComing_70 rfl rfl ?_
        refine tr_V.callS (C_X4_stateOf s11.1 s14.1 s14.2) yk_X4_stateOf sc_X4_stateOf ml_X4_89 ⟨rfl, Nat.le_of_ble_eq_true rfl⟩ rfl (Nat.le_of_ble_eq_true rfl) rfl dX4_fillComing_71 ?_
        refine tr_V.bd (fun a21 h22 => ?_)
        refine tr_V.iald h22 shC_51 dX4_fillComing_74 ?_
        refine tr_V.if_le (tgt := 84) dX4_fillComing_75 (by decide) ?_ ?_
        · refine tr_V.aload_n (i := 0) dX4_fillComing_78 rfl rfl ?_
          refine tr_V.iload_n (i := 1) dX4_fillComing_79 rfl rfl ?_
          refine tr_V.iload_n (i := 2) dX4_fillComing_80 rfl rfl ?_
          refine tr_V.bd (fun c23 h24 => ?_)
          refine tr_V.callV (C_X4_comeOnFrom s11.1 s14.1 s14.2 _ h24) yk_X4_comeOnFrom iv_X4_comeOnFrom ml_X4_159 shC_25 rfl ⟨rfl, Nat.le_of_ble_eq_true rfl⟩ rfl (Nat.le_of_ble_eq_true rfl) rfl dX4_fillComing_81 ?_
          refine tr_V.iinc (cst := (1 : Int32)) dX4_fillComing_84 rfl (by decide) rfl ?_
          refine tr_V.goto (tgt := 48) dX4_fillComing_87 (by decide) ?_
          exact tr_V.to (fun h => h) ⟨rfl, rfl, rfl, trivial⟩
        · refine tr_V.iinc (cst := (1 : Int32)) dX4_fillComing_84 rfl (by decide) rfl ?_
          refine tr_V.goto (tgt := 48) dX4_fillComing_87 (by decide) ?_
          exact tr_V.to (fun h => h) ⟨rfl, rfl, rfl, trivial⟩
    · refine tr_V.iinc (cst := (1 : Int32)) dX4_fillComing_90 rfl (by decide) rfl ?_
      refine tr_V.goto (tgt := 35) dX4_fillComing_93 (by decide) ?_
      exact tr_V.to (fun h => h) ⟨rfl, rfl, trivial⟩
  · exact tr_V.vret dX4_fillComing_96 rfl (fun h => h)
abbrev xX4_numberTaking : tr_X := (cX4_numberTaking, 5, RX4, (some .int), 3, shC, 81)
theorem cw_X4_numberTaking : Cond.code yX4_numberTaking cX4_numberTaking 5 (some .int) ∈ tr_tbl := tr_in 942 (by decide +kernel) rfl
theorem yk_X4_numberTaking : tr_yk yX4_numberTaking (xX4_numberTaking) 2 := ⟨cw_X4_numberTaking, in_X4, ⟨by decide +kernel, by decide +kernel, by decide +kernel⟩, Nat.le_of_ble_eq_true rfl⟩
theorem iv_X4_numberTaking : Cond.instanceMethod yX4_numberTaking ∈ tr_tbl ∧ Cond.selects (yX4_numberTaking).cls yX4_numberTaking yX4_numberTaking ∈ tr_tbl := ⟨tr_in 941 (by decide +kernel) rfl, tr_in 42 (by decide +kernel) rfl⟩
def mX4_numberTaking_l15 (p1 : Int32) (p2 : Int32) (M : tr_M) (s1 : Int32 × Int32) : Option ((Int32 × Int32) ⊕ (Int32)) :=
  if s1.2 < (mX4_lastsOf p2 M) then (
    if (mX4_isState p2 s1.2) = 0 then (
      some (.inl (s1.1, (s1.2 + (1 : Int32))))
    ) else (
      Option.bind (mX4_nextInLeast p2 s1.2 M) (fun c6 =>
      if ((c6 >>> (p1 &&& 31)) &&& (1 : Int32)) = 0 then (
        some (.inl (s1.1, (s1.2 + (1 : Int32))))
      ) else (
        Option.bind (tr_rd 10240 M 51 (mX4_stateOf p2 s1.2)) (fun a10 =>
        Option.bind (tr_rd 10240 M 50 (mX4_stateOf (p2 ||| ((1 : Int32) <<< (p1 &&& 31))) p1)) (fun a14 =>
        some (.inl ((s1.1 + (a10 * a14)), (s1.2 + (1 : Int32))))
        )
        )
      )
      )
    )
  ) else (
    some (.inr s1.1)
  )
def mX4_numberTaking (p1 : Int32) (p2 : Int32) (M : tr_M) : Option (Int32) :=
  if ((p2 >>> (p1 &&& 31)) &&& (1 : Int32)) = 0 then (
    tr_loop (mX4_numberTaking_l15 p1 p2 M) ((0 : Int32), (0 : Int32))
  ) else (
    some (0 : Int32)
  )
set_option maxRecDepth 100000 in
set_option maxHeartbeats 4000000 in
theorem C_X4_numberTaking (p1 : Int32) (p2 : Int32) (M : tr_M) (r : Int32) (h : mX4_numberTaking p1 p2 M = some r) : tr_I yX4_numberTaking (xX4_numberTaking) [.ref 25, .int p1, .int p2] M (some (.int r)) M := by
  refine tr_I.of (Z := fun q : Int32 => (some (.int r) : Option Value) = some (.int q) ∧ M = M) pn_X4 rfl gdC (Nat.le_of_ble_eq_true rfl) (fun Wt => ?_) h ⟨rfl, rfl⟩
  unfold mX4_numberTaking
  refine tr_V.iload_n (i := 2) dX4_numberTaking_0 rfl rfl ?_
  refine tr_V.iload_n (i := 1) dX4_numberTaking_1 rfl rfl ?_
  refine tr_V.ishr dX4_numberTaking_2 ?_
  refine tr_V.iconst (v := (1 : Int32)) dX4_numberTaking_3 (by decide) ?_
  refine tr_V.iand dX4_numberTaking_4 ?_
  refine tr_V.if_eq (tgt := 10) dX4_numberTaking_5 (by decide) ?_ ?_
  · refine tr_V.iconst (v := (0 : Int32)) dX4_numberTaking_10 (by decide) ?_
    refine tr_V.istore_n (i := 3) dX4_numberTaking_11 rfl (Nat.le_of_ble_eq_true rfl) rfl ?_
    refine tr_V.iconst (v := (0 : Int32)) dX4_numberTaking_12 (by decide) ?_
    refine tr_V.istore (i := 4) dX4_numberTaking_13 (Nat.le_of_ble_eq_true rfl) rfl ?_
    refine tr_V.loop (σ := Int32 × Int32) (step := mX4_numberTaking_l15 p1 p2 M) (L := fun s1 => [(0, some (.ref 25)), (1, some (.int p1)), (2, some (.int p2)), (3, some (.int s1.1)), (4, some (.int s1.2))]) (Mf := fun s1 => M) ?_ ((0 : Int32), (0 : Int32)) ⟨rfl, rfl, rfl, rfl, rfl, trivial⟩
    intro s1
    refine tr_V.iload dX4_numberTaking_15 rfl ?_
    refine tr_V.aload_n (i := 0) dX4_numberTaking_17 rfl rfl ?_
    refine tr_V.iload_n (i := 2) dX4_numberTaking_18 rfl rfl ?_
    refine tr_V.callV (C_X4_lastsOf p2 M) yk_X4_lastsOf iv_X4_lastsOf ml_X4_81 shC_25 rfl ⟨rfl, Nat.le_of_ble_eq_true rfl⟩ rfl (Nat.le_of_ble_eq_true rfl) rfl dX4_numberTaking_19 ?_
    refine tr_V.icmp_ge (tgt := 83) dX4_numberTaking_22 (by decide) ?_ ?_
    · refine tr_V.iload_n (i := 2) dX4_numberTaking_25 rfl rfl ?_
      refine tr_V.iload dX4_numberTaking_26 rfl ?_
      refine tr_V.callS (C_X4_isState p2 s1.2 M) yk_X4_isState sc_X4_isState ml_X4_85 ⟨rfl, Nat.le_of_ble_eq_true rfl⟩ rfl (Nat.le_of_ble_eq_true rfl) rfl dX4_numberTaking_28 ?_
      refine tr_V.if_eq (tgt := 77) dX4_numberTaking_31 (by decide) ?_ ?_
      · refine tr_V.iinc (cst := (1 : Int32)) dX4_numberTaking_77 rfl (by decide) rfl ?_
        refine tr_V.goto (tgt := 15) dX4_numberTaking_80 (by decide) ?_
        exact tr_V.to (fun h => h) ⟨rfl, rfl, rfl, rfl, rfl, trivial⟩
      · refine tr_V.aload_n (i := 0) dX4_numberTaking_34 rfl rfl ?_
        refine tr_V.iload_n (i := 2) dX4_numberTaking_35 rfl rfl ?_
        refine tr_V.iload dX4_numberTaking_36 rfl ?_
        refine tr_V.bd (fun c6 h7 => ?_)
        refine tr_V.callV (C_X4_nextInLeast p2 s1.2 M _ h7) yk_X4_nextInLeast iv_X4_nextInLeast ml_X4_141 shC_25 rfl ⟨rfl, Nat.le_of_ble_eq_true rfl⟩ rfl (Nat.le_of_ble_eq_true rfl) rfl dX4_numberTaking_38 ?_
        refine tr_V.iload_n (i := 1) dX4_numberTaking_41 rfl rfl ?_
        refine tr_V.ishr dX4_numberTaking_42 ?_
        refine tr_V.iconst (v := (1 : Int32)) dX4_numberTaking_43 (by decide) ?_
        refine tr_V.iand dX4_numberTaking_44 ?_
        refine tr_V.if_eq (tgt := 77) dX4_numberTaking_45 (by decide) ?_ ?_
        · refine tr_V.iinc (cst := (1 : Int32)) dX4_numberTaking_77 rfl (by decide) rfl ?_
          refine tr_V.goto (tgt := 15) dX4_numberTaking_80 (by decide) ?_
          exact tr_V.to (fun h => h) ⟨rfl, rfl, rfl, rfl, rfl, trivial⟩
        · refine tr_V.iload_n (i := 3) dX4_numberTaking_48 rfl rfl ?_
          refine tr_V.aload_n (i := 0) dX4_numberTaking_49 rfl rfl ?_
          refine tr_V.getR (Nat.succ_pos _) fl_X4_37 shC_25 rfl dX4_numberTaking_50 ?_
          refine tr_V.iload_n (i := 2) dX4_numberTaking_53 rfl rfl ?_
          refine tr_V.iload dX4_numberTaking_54 rfl ?_
          refine tr_V.callS (C_X4_stateOf p2 s1.2 M) yk_X4_stateOf sc_X4_stateOf ml_X4_89 ⟨rfl, Nat.le_of_ble_eq_true rfl⟩ rfl (Nat.le_of_ble_eq_true rfl) rfl dX4_numberTaking_56 ?_
          refine tr_V.bd (fun a10 h11 => ?_)
          refine tr_V.iald h11 shC_51 dX4_numberTaking_59 ?_
          refine tr_V.aload_n (i := 0) dX4_numberTaking_60 rfl rfl ?_
          refine tr_V.getR (Nat.succ_pos _) fl_X4_34 shC_25 rfl dX4_numberTaking_61 ?_
          refine tr_V.iload_n (i := 2) dX4_numberTaking_64 rfl rfl ?_
          refine tr_V.iconst (v := (1 : Int32)) dX4_numberTaking_65 (by decide) ?_
          refine tr_V.iload_n (i := 1) dX4_numberTaking_66 rfl rfl ?_
          refine tr_V.ishl dX4_numberTaking_67 ?_
          refine tr_V.ior dX4_numberTaking_68 ?_
          refine tr_V.iload_n (i := 1) dX4_numberTaking_69 rfl rfl ?_
          refine tr_V.callS (C_X4_stateOf (p2 ||| ((1 : Int32) <<< (p1 &&& 31))) p1 M) yk_X4_stateOf sc_X4_stateOf ml_X4_89 ⟨rfl, Nat.le_of_ble_eq_true rfl⟩ rfl (Nat.le_of_ble_eq_true rfl) rfl dX4_numberTaking_70 ?_
          refine tr_V.bd (fun a14 h15 => ?_)
          refine tr_V.iald h15 shC_50 dX4_numberTaking_73 ?_
          refine tr_V.imul dX4_numberTaking_74 ?_
          refine tr_V.iadd dX4_numberTaking_75 ?_
          refine tr_V.istore_n (i := 3) dX4_numberTaking_76 rfl (Nat.le_of_ble_eq_true rfl) rfl ?_
          refine tr_V.iinc (cst := (1 : Int32)) dX4_numberTaking_77 rfl (by decide) rfl ?_
          refine tr_V.goto (tgt := 15) dX4_numberTaking_80 (by decide) ?_
          exact tr_V.to (fun h => h) ⟨rfl, rfl, rfl, rfl, rfl, trivial⟩
    · refine tr_V.iload_n (i := 3) dX4_numberTaking_83 rfl rfl ?_
      exact tr_V.iret dX4_numberTaking_84 rfl (fun h => h)
  · refine tr_V.iconst (v := (0 : Int32)) dX4_numberTaking_8 (by decide) ?_
    exact tr_V.iret dX4_numberTaking_9 rfl (fun h => h)
abbrev xX4_spreadOf : tr_X := (cX4_spreadOf, 4, RX4, (Option.none : Option Jvm.ClassFile.FieldType), 6, shC, 81)
theorem cw_X4_spreadOf : Cond.code yX4_spreadOf cX4_spreadOf 4 (Option.none : Option Jvm.ClassFile.FieldType) ∈ tr_tbl := tr_in 928 (by decide +kernel) rfl
theorem yk_X4_spreadOf : tr_yk yX4_spreadOf (xX4_spreadOf) 2 := ⟨cw_X4_spreadOf, in_X4, ⟨by decide +kernel, by decide +kernel, by decide +kernel⟩, Nat.le_of_ble_eq_true rfl⟩
def mX4_spreadOf_l11 (p1 : Int32) (p2 : Nat) (s5 : Int32 × tr_M) : Option ((Int32 × tr_M) ⊕ (tr_M)) :=
  if s5.1 < (mX5_everything 26 s5.2) then (
    Option.bind (mJ6_bitCount_0f7a4 s5.1) (fun c8 =>
    Option.bind (tr_rd (tr_len shC p2) s5.2 p2 c8) (fun a10 =>
    Option.bind (mX4_numberTaking p1 s5.1 s5.2) (fun c12 =>
    Option.bind (tr_wr (tr_len shC p2) s5.2 p2 c8 (a10 + c12)) (fun M14 =>
    some (.inl ((s5.1 + (1 : Int32)), M14))
    )
    )
    )
    )
  ) else (
    some (.inr s5.2)
  )
def mX4_spreadOf (p1 : Int32) (p2 : Nat) (M : tr_M) : Option (tr_M) :=
  Option.bind (mJ7_fill_53178 shC p2 (0 : Int32) M) (fun c1 =>
  Option.bind (mX4_fillComing c1) (fun c3 =>
  tr_loop (mX4_spreadOf_l11 p1 p2) ((0 : Int32), c3)
  )
  )
set_option maxRecDepth 100000 in
set_option maxHeartbeats 4000000 in
theorem C_X4_spreadOf (p1 : Int32) (p2 : Nat) (M M' : tr_M) (h : mX4_spreadOf p1 p2 M = some M') : tr_I yX4_spreadOf (xX4_spreadOf) [.ref 25, .int p1, .ref p2] M none M' := by
  refine tr_I.of (Z := fun q : tr_M => (none : Option Value) = none ∧ M' = q) pn_X4 rfl gdC (Nat.le_of_ble_eq_true rfl) (fun Wt => ?_) h ⟨rfl, rfl⟩
  unfold mX4_spreadOf
  refine tr_V.aload_n (i := 2) dX4_spreadOf_0 rfl rfl ?_
  refine tr_V.iconst (v := (0 : Int32)) dX4_spreadOf_1 (by decide) ?_
  refine tr_V.bd (fun c1 h2 => ?_)
  refine tr_V.callS (C_J7_fill_53178 shC 81 gdC p2 (0 : Int32) M _ h2) yk_J7_fill_53178 sc_J7_fill_53178 ml_X4_144 ⟨rfl, Nat.le_of_ble_eq_true rfl⟩ rfl (Nat.le_of_ble_eq_true rfl) rfl dX4_spreadOf_2 ?_
  refine tr_V.aload_n (i := 0) dX4_spreadOf_5 rfl rfl ?_
  refine tr_V.bd (fun c3 h4 => ?_)
  refine tr_V.callV (C_X4_fillComing c1 _ h4) yk_X4_fillComing iv_X4_fillComing ml_X4_150 shC_25 rfl ⟨rfl, Nat.le_of_ble_eq_true rfl⟩ rfl (Nat.le_of_ble_eq_true rfl) rfl dX4_spreadOf_6 ?_
  refine tr_V.iconst (v := (0 : Int32)) dX4_spreadOf_9 (by decide) ?_
  refine tr_V.istore_n (i := 3) dX4_spreadOf_10 rfl (Nat.le_of_ble_eq_true rfl) rfl ?_
  refine tr_V.loop (σ := Int32 × tr_M) (step := mX4_spreadOf_l11 p1 p2) (L := fun s5 => [(0, some (.ref 25)), (1, some (.int p1)), (2, some (.ref p2)), (3, some (.int s5.1))]) (Mf := fun s5 => s5.2) ?_ ((0 : Int32), c3) ⟨rfl, rfl, rfl, rfl, trivial⟩
  intro s5
  refine tr_V.iload_n (i := 3) dX4_spreadOf_11 rfl rfl ?_
  refine tr_V.aload_n (i := 0) dX4_spreadOf_12 rfl rfl ?_
  refine tr_V.getR (Nat.succ_pos _) fl_X4_12 shC_25 rfl dX4_spreadOf_13 ?_
  refine tr_V.callV (C_X5_everything 26 isW_26 s5.2) yk_X5_everything iv_X5_everything ml_X4_77 shC_26 rfl ⟨rfl, Nat.le_of_ble_eq_true rfl⟩ rfl (Nat.le_of_ble_eq_true rfl) rfl dX4_spreadOf_16 ?_
  refine tr_V.icmp_ge (tgt := 43) dX4_spreadOf_19 (by decide) ?_ ?_
  · refine tr_V.aload_n (i := 2) dX4_spreadOf_22 rfl rfl ?_
    refine tr_V.iload_n (i := 3) dX4_spreadOf_23 rfl rfl ?_
    refine tr_V.bd (fun c8 h9 => ?_)
    refine tr_V.callS (C_J6_bitCount_0f7a4 shC 81 gdC s5.1 s5.2 _ h9) yk_J6_bitCount_0f7a4 sc_J6_bitCount_0f7a4 ml_X4_99 ⟨rfl, Nat.le_of_ble_eq_true rfl⟩ rfl (Nat.le_of_ble_eq_true rfl) rfl dX4_spreadOf_24 ?_
    refine tr_V.dup2 rfl rfl dX4_spreadOf_27 ?_
    refine tr_V.bd (fun a10 h11 => ?_)
    refine tr_V.ialdL h11 dX4_spreadOf_28 ?_
    refine tr_V.aload_n (i := 0) dX4_spreadOf_29 rfl rfl ?_
    refine tr_V.iload_n (i := 1) dX4_spreadOf_30 rfl rfl ?_
    refine tr_V.iload_n (i := 3) dX4_spreadOf_31 rfl rfl ?_
    refine tr_V.bd (fun c12 h13 => ?_)
    refine tr_V.callV (C_X4_numberTaking p1 s5.1 s5.2 _ h13) yk_X4_numberTaking iv_X4_numberTaking ml_X4_153 shC_25 rfl ⟨rfl, Nat.le_of_ble_eq_true rfl⟩ rfl (Nat.le_of_ble_eq_true rfl) rfl dX4_spreadOf_32 ?_
    refine tr_V.iadd dX4_spreadOf_35 ?_
    refine tr_V.bd (fun M14 h15 => ?_)
    refine tr_V.iastL h15 dX4_spreadOf_36 ?_
    refine tr_V.iinc (cst := (1 : Int32)) dX4_spreadOf_37 rfl (by decide) rfl ?_
    refine tr_V.goto (tgt := 11) dX4_spreadOf_40 (by decide) ?_
    exact tr_V.to (fun h => h) ⟨rfl, rfl, rfl, rfl, trivial⟩
  · exact tr_V.vret dX4_spreadOf_43 rfl (fun h => h)
abbrev xX4_numberAhead : tr_X := (cX4_numberAhead, 5, RX4, (some .int), 6, shC, 81)
theorem cw_X4_numberAhead : Cond.code yX4_numberAhead cX4_numberAhead 5 (some .int) ∈ tr_tbl := tr_in 963 (by decide +kernel) rfl
theorem yk_X4_numberAhead : tr_yk yX4_numberAhead (xX4_numberAhead) 2 := ⟨cw_X4_numberAhead, in_X4, ⟨by decide +kernel, by decide +kernel, by decide +kernel⟩, Nat.le_of_ble_eq_true rfl⟩
def mX4_numberAhead_l9 (p1 : Int32) (p2 : Int32) (c1 : tr_M) (s3 : Int32 × Int32) : Option ((Int32 × Int32) ⊕ (Int32 × tr_M)) :=
  if s3.2 < (mX5_everything 26 c1) then (
    if ((s3.2 >>> (p1 &&& 31)) &&& (1 : Int32)) = 0 then (
      some (.inl (s3.1, (s3.2 + (1 : Int32))))
    ) else (
      Option.bind (mX4_numberTaking p2 s3.2 c1) (fun c6 =>
      some (.inl ((s3.1 + c6), (s3.2 + (1 : Int32))))
      )
    )
  ) else (
    some (.inr (s3.1, c1))
  )
def mX4_numberAhead (p1 : Int32) (p2 : Int32) (M : tr_M) : Option (Int32 × tr_M) :=
  Option.bind (mX4_fillComing M) (fun c1 =>
  tr_loop (mX4_numberAhead_l9 p1 p2 c1) ((0 : Int32), (0 : Int32))
  )
set_option maxRecDepth 100000 in
set_option maxHeartbeats 4000000 in
theorem C_X4_numberAhead (p1 : Int32) (p2 : Int32) (M : tr_M) (r : Int32 × tr_M) (h : mX4_numberAhead p1 p2 M = some r) : tr_I yX4_numberAhead (xX4_numberAhead) [.ref 25, .int p1, .int p2] M (some (.int r.1)) r.2 := by
  refine tr_I.of (Z := fun q : Int32 × tr_M => (some (.int r.1) : Option Value) = some (.int q.1) ∧ r.2 = q.2) pn_X4 rfl gdC (Nat.le_of_ble_eq_true rfl) (fun Wt => ?_) h ⟨rfl, rfl⟩
  unfold mX4_numberAhead
  refine tr_V.aload_n (i := 0) dX4_numberAhead_0 rfl rfl ?_
  refine tr_V.bd (fun c1 h2 => ?_)
  refine tr_V.callV (C_X4_fillComing M _ h2) yk_X4_fillComing iv_X4_fillComing ml_X4_150 shC_25 rfl ⟨rfl, Nat.le_of_ble_eq_true rfl⟩ rfl (Nat.le_of_ble_eq_true rfl) rfl dX4_numberAhead_1 ?_
  refine tr_V.iconst (v := (0 : Int32)) dX4_numberAhead_4 (by decide) ?_
  refine tr_V.istore_n (i := 3) dX4_numberAhead_5 rfl (Nat.le_of_ble_eq_true rfl) rfl ?_
  refine tr_V.iconst (v := (0 : Int32)) dX4_numberAhead_6 (by decide) ?_
  refine tr_V.istore (i := 4) dX4_numberAhead_7 (Nat.le_of_ble_eq_true rfl) rfl ?_
  refine tr_V.loop (σ := Int32 × Int32) (step := mX4_numberAhead_l9 p1 p2 c1) (L := fun s3 => [(0, some (.ref 25)), (1, some (.int p1)), (2, some (.int p2)), (3, some (.int s3.1)), (4, some (.int s3.2))]) (Mf := fun s3 => c1) ?_ ((0 : Int32), (0 : Int32)) ⟨rfl, rfl, rfl, rfl, rfl, trivial⟩
  intro s3
  refine tr_V.iload dX4_numberAhead_9 rfl ?_
  refine tr_V.aload_n (i := 0) dX4_numberAhead_11 rfl rfl ?_
  refine tr_V.getR (Nat.succ_pos _) fl_X4_12 shC_25 rfl dX4_numberAhead_12 ?_
  refine tr_V.callV (C_X5_everything 26 isW_26 c1) yk_X5_everything iv_X5_everything ml_X4_77 shC_26 rfl ⟨rfl, Nat.le_of_ble_eq_true rfl⟩ rfl (Nat.le_of_ble_eq_true rfl) rfl dX4_numberAhead_15 ?_
  refine tr_V.icmp_ge (tgt := 46) dX4_numberAhead_18 (by decide) ?_ ?_
  · refine tr_V.iload dX4_numberAhead_21 rfl ?_
    refine tr_V.iload_n (i := 1) dX4_numberAhead_23 rfl rfl ?_
    refine tr_V.ishr dX4_numberAhead_24 ?_
    refine tr_V.iconst (v := (1 : Int32)) dX4_numberAhead_25 (by decide) ?_
    refine tr_V.iand dX4_numberAhead_26 ?_
    refine tr_V.if_eq (tgt := 40) dX4_numberAhead_27 (by decide) ?_ ?_
    · refine tr_V.iinc (cst := (1 : Int32)) dX4_numberAhead_40 rfl (by decide) rfl ?_
      refine tr_V.goto (tgt := 9) dX4_numberAhead_43 (by decide) ?_
      exact tr_V.to (fun h => h) ⟨rfl, rfl, rfl, rfl, rfl, trivial⟩
    · refine tr_V.iload_n (i := 3) dX4_numberAhead_30 rfl rfl ?_
      refine tr_V.aload_n (i := 0) dX4_numberAhead_31 rfl rfl ?_
      refine tr_V.iload_n (i := 2) dX4_numberAhead_32 rfl rfl ?_
      refine tr_V.iload dX4_numberAhead_33 rfl ?_
      refine tr_V.bd (fun c6 h7 => ?_)
      refine tr_V.callV (C_X4_numberTaking p2 s3.2 c1 _ h7) yk_X4_numberTaking iv_X4_numberTaking ml_X4_153 shC_25 rfl ⟨rfl, Nat.le_of_ble_eq_true rfl⟩ rfl (Nat.le_of_ble_eq_true rfl) rfl dX4_numberAhead_35 ?_
      refine tr_V.iadd dX4_numberAhead_38 ?_
      refine tr_V.istore_n (i := 3) dX4_numberAhead_39 rfl (Nat.le_of_ble_eq_true rfl) rfl ?_
      refine tr_V.iinc (cst := (1 : Int32)) dX4_numberAhead_40 rfl (by decide) rfl ?_
      refine tr_V.goto (tgt := 9) dX4_numberAhead_43 (by decide) ?_
      exact tr_V.to (fun h => h) ⟨rfl, rfl, rfl, rfl, rfl, trivial⟩
  · refine tr_V.iload_n (i := 3) dX4_numberAhead_46 rfl rfl ?_
    exact tr_V.iret dX4_numberAhead_47 rfl (fun h => h)
abbrev xX4_costOfRule : tr_X := (cX4_costOfRule, 1, RX4, (some .int), 1, shC, 81)
theorem cw_X4_costOfRule : Cond.code yX4_costOfRule cX4_costOfRule 1 (some .int) ∈ tr_tbl := tr_in 995 (by decide +kernel) rfl
theorem yk_X4_costOfRule : tr_yk yX4_costOfRule (xX4_costOfRule) 1 := ⟨cw_X4_costOfRule, in_X4, ⟨by decide +kernel, by decide +kernel, by decide +kernel⟩, Nat.le_of_ble_eq_true rfl⟩
theorem sc_X4_costOfRule : Cond.static yX4_costOfRule ∈ tr_tbl := tr_in 994 (by decide +kernel) rfl
def mX4_costOfRule' (p0 : Int32) : Option Int32 :=
  some ((256 : Int32) ||| ((1 : Int32) <<< (p0 &&& 31)))
def mX4_costOfRule (p0 : Int32) : Int32 :=
  ((256 : Int32) ||| ((1 : Int32) <<< (p0 &&& 31)))
theorem mX4_costOfRule_eq (p0 : Int32) : mX4_costOfRule' p0 = some (mX4_costOfRule p0) := by
  unfold mX4_costOfRule' mX4_costOfRule
  rfl
set_option maxRecDepth 100000 in
set_option maxHeartbeats 4000000 in
theorem C_X4_costOfRule (p0 : Int32) (M : tr_M) : tr_I yX4_costOfRule (xX4_costOfRule) [.int p0] M (some (.int (mX4_costOfRule p0))) M := by
  refine tr_I.of (Z := fun q : Int32 => (some (.int (mX4_costOfRule p0)) : Option Value) = some (.int q) ∧ M = M) pn_X4 rfl gdC (Nat.le_of_ble_eq_true rfl) (fun Wt => ?_) (mX4_costOfRule_eq p0) ⟨rfl, rfl⟩
  unfold mX4_costOfRule'
  refine tr_V.sipush (v := (256 : Int32)) dX4_costOfRule_0 (by decide) ?_
  refine tr_V.iconst (v := (1 : Int32)) dX4_costOfRule_3 (by decide) ?_
  refine tr_V.iload_n (i := 0) dX4_costOfRule_4 rfl rfl ?_
  refine tr_V.ishl dX4_costOfRule_5 ?_
  refine tr_V.ior dX4_costOfRule_6 ?_
  exact tr_V.iret dX4_costOfRule_7 rfl (fun h => h)
abbrev xX4_addCosts : tr_X := (cX4_addCosts, 6, RX4, (Option.none : Option Jvm.ClassFile.FieldType), 1, shC, 81)
theorem cw_X4_addCosts : Cond.code yX4_addCosts cX4_addCosts 6 (Option.none : Option Jvm.ClassFile.FieldType) ∈ tr_tbl := tr_in 999 (by decide +kernel) rfl
theorem yk_X4_addCosts : tr_yk yX4_addCosts (xX4_addCosts) 4 := ⟨cw_X4_addCosts, in_X4, ⟨by decide +kernel, by decide +kernel, by decide +kernel⟩, Nat.le_of_ble_eq_true rfl⟩
theorem iv_X4_addCosts : Cond.instanceMethod yX4_addCosts ∈ tr_tbl ∧ Cond.selects (yX4_addCosts).cls yX4_addCosts yX4_addCosts ∈ tr_tbl := ⟨tr_in 998 (by decide +kernel) rfl, tr_in 46 (by decide +kernel) rfl⟩
def mX4_addCosts_l3 (p1 : Int32) (p2 : Int32) (p3 : Nat) (p4 : Int32) (s1 : Int32 × tr_M) : Option ((Int32 × tr_M) ⊕ (tr_M)) :=
  if s1.1 < (s1.2.1 26 0) then (
    if ((p1 >>> (s1.1 &&& 31)) &&& (1 : Int32)) = 0 then (
      some (.inl ((s1.1 + (1 : Int32)), s1.2))
    ) else (
      Option.bind (tr_rd (tr_len shC p3) s1.2 p3 (p4 + s1.1)) (fun a2 =>
      Option.bind (tr_wr (tr_len shC p3) s1.2 p3 (p4 + s1.1) (a2 + p2)) (fun M4 =>
      some (.inl ((s1.1 + (1 : Int32)), M4))
      )
      )
    )
  ) else (
    some (.inr s1.2)
  )
def mX4_addCosts (p1 : Int32) (p2 : Int32) (p3 : Nat) (p4 : Int32) (M : tr_M) : Option (tr_M) :=
  tr_loop (mX4_addCosts_l3 p1 p2 p3 p4) ((0 : Int32), M)
set_option maxRecDepth 100000 in
set_option maxHeartbeats 4000000 in
theorem C_X4_addCosts (p1 : Int32) (p2 : Int32) (p3 : Nat) (p4 : Int32) (M M' : tr_M) (h : mX4_addCosts p1 p2 p3 p4 M = some M') : tr_I yX4_addCosts (xX4_addCosts) [.ref 25, .int p1, .int p2, .ref p3, .int p4] M none M' := by
  refine tr_I.of (Z := fun q : tr_M => (none : Option Value) = none ∧ M' = q) pn_X4 rfl gdC (Nat.le_of_ble_eq_true rfl) (fun Wt => ?_) h ⟨rfl, rfl⟩
  unfold mX4_addCosts
  refine tr_V.iconst (v := (0 : Int32)) dX4_addCosts_0 (by decide) ?_
  refine tr_V.istore (i := 5) dX4_addCosts_1 (Nat.le_of_ble_eq_true rfl) rfl ?_
  refine tr_V.loop (σ := Int32 × tr_M) (step := mX4_addCosts_l3 p1 p2 p3 p4) (L := fun s1 => [(0, some (.ref 25)), (1, some (.int p1)), (2, some (.int p2)), (3, some (.ref p3)), (4, some (.int p4)), (5, some (.int s1.1))]) (Mf := fun s1 => s1.2) ?_ ((0 : Int32), M) ⟨rfl, rfl, rfl, rfl, rfl, rfl, trivial⟩
  intro s1
  refine tr_V.iload dX4_addCosts_3 rfl ?_
  refine tr_V.aload_n (i := 0) dX4_addCosts_5 rfl rfl ?_
  refine tr_V.getR (Nat.succ_pos _) fl_X4_12 shC_25 rfl dX4_addCosts_6 ?_
  refine tr_V.getI fl_X4_96 shC_26 rfl dX4_addCosts_9 ?_
  refine tr_V.icmp_ge (tgt := 41) dX4_addCosts_12 (by decide) ?_ ?_
  · refine tr_V.iload_n (i := 1) dX4_addCosts_15 rfl rfl ?_
    refine tr_V.iload dX4_addCosts_16 rfl ?_
    refine tr_V.ishr dX4_addCosts_18 ?_
    refine tr_V.iconst (v := (1 : Int32)) dX4_addCosts_19 (by decide) ?_
    refine tr_V.iand dX4_addCosts_20 ?_
    refine tr_V.if_eq (tgt := 35) dX4_addCosts_21 (by decide) ?_ ?_
    · refine tr_V.iinc (cst := (1 : Int32)) dX4_addCosts_35 rfl (by decide) rfl ?_
      refine tr_V.goto (tgt := 3) dX4_addCosts_38 (by decide) ?_
      exact tr_V.to (fun h => h) ⟨rfl, rfl, rfl, rfl, rfl, rfl, trivial⟩
    · refine tr_V.aload_n (i := 3) dX4_addCosts_24 rfl rfl ?_
      refine tr_V.iload dX4_addCosts_25 rfl ?_
      refine tr_V.iload dX4_addCosts_27 rfl ?_
      refine tr_V.iadd dX4_addCosts_29 ?_
      refine tr_V.dup2 rfl rfl dX4_addCosts_30 ?_
      refine tr_V.bd (fun a2 h3 => ?_)
      refine tr_V.ialdL h3 dX4_addCosts_31 ?_
      refine tr_V.iload_n (i := 2) dX4_addCosts_32 rfl rfl ?_
      refine tr_V.iadd dX4_addCosts_33 ?_
      refine tr_V.bd (fun M4 h5 => ?_)
      refine tr_V.iastL h5 dX4_addCosts_34 ?_
      refine tr_V.iinc (cst := (1 : Int32)) dX4_addCosts_35 rfl (by decide) rfl ?_
      refine tr_V.goto (tgt := 3) dX4_addCosts_38 (by decide) ?_
      exact tr_V.to (fun h => h) ⟨rfl, rfl, rfl, rfl, rfl, rfl, trivial⟩
  · exact tr_V.vret dX4_addCosts_41 rfl (fun h => h)
abbrev xX4_fillNextCosts : tr_X := (cX4_fillNextCosts, 3, RX4, (Option.none : Option Jvm.ClassFile.FieldType), 3, shC, 81)
theorem cw_X4_fillNextCosts : Cond.code yX4_fillNextCosts cX4_fillNextCosts 3 (Option.none : Option Jvm.ClassFile.FieldType) ∈ tr_tbl := tr_in 992 (by decide +kernel) rfl
theorem yk_X4_fillNextCosts : tr_yk yX4_fillNextCosts (xX4_fillNextCosts) 0 := ⟨cw_X4_fillNextCosts, in_X4, ⟨by decide +kernel, by decide +kernel, by decide +kernel⟩, Nat.le_of_ble_eq_true rfl⟩
theorem iv_X4_fillNextCosts : Cond.instanceMethod yX4_fillNextCosts ∈ tr_tbl ∧ Cond.selects (yX4_fillNextCosts).cls yX4_fillNextCosts yX4_fillNextCosts ∈ tr_tbl := ⟨tr_in 991 (by decide +kernel) rfl, tr_in 45 (by decide +kernel) rfl⟩
def mX4_fillNextCosts_l18 (s3 : Int32 × tr_M) (s4 : Int32 × tr_M) : Option ((Int32 × tr_M) ⊕ ((Int32 × tr_M) ⊕ (tr_M))) :=
  if s4.1 < (s4.2.1 26 1) then (
    Option.bind (mX5_barredNextTo 26 s4.1 s3.1 s4.2) (fun c5 =>
    Option.bind (mX4_addCosts c5 (mX4_costOfRule s4.1) 53 (mX4_stateOf s3.1 (0 : Int32)) s4.2) (fun c11 =>
    some (.inl ((s4.1 + (1 : Int32)), c11))
    )
    )
  ) else (
    some (.inr (.inl ((s3.1 + (1 : Int32)), s4.2)))
  )
def mX4_fillNextCosts_l10  (s3 : Int32 × tr_M) : Option ((Int32 × tr_M) ⊕ (tr_M)) :=
  if (10 : Int32) < s3.1 then (
    some (.inr s3.2)
  ) else (
    tr_loop (mX4_fillNextCosts_l18 s3) ((0 : Int32), s3.2)
  )
def mX4_fillNextCosts  (M : tr_M) : Option (tr_M) :=
  Option.bind (mJ7_fill_53178 shC 53 (0 : Int32) M) (fun c1 =>
  tr_loop (mX4_fillNextCosts_l10) ((0 : Int32), c1)
  )
set_option maxRecDepth 100000 in
set_option maxHeartbeats 4000000 in
theorem C_X4_fillNextCosts  (M M' : tr_M) (h : mX4_fillNextCosts M = some M') : tr_I yX4_fillNextCosts (xX4_fillNextCosts) [.ref 25] M none M' := by
  refine tr_I.of (Z := fun q : tr_M => (none : Option Value) = none ∧ M' = q) pn_X4 rfl gdC (Nat.le_of_ble_eq_true rfl) (fun Wt => ?_) h ⟨rfl, rfl⟩
  unfold mX4_fillNextCosts
  refine tr_V.aload_n (i := 0) dX4_fillNextCosts_0 rfl rfl ?_
  refine tr_V.getR (Nat.succ_pos _) fl_X4_43 shC_25 rfl dX4_fillNextCosts_1 ?_
  refine tr_V.iconst (v := (0 : Int32)) dX4_fillNextCosts_4 (by decide) ?_
  refine tr_V.bd (fun c1 h2 => ?_)
  refine tr_V.callS (C_J7_fill_53178 shC 81 gdC 53 (0 : Int32) M _ h2) yk_J7_fill_53178 sc_J7_fill_53178 ml_X4_144 ⟨rfl, Nat.le_of_ble_eq_true rfl⟩ rfl (Nat.le_of_ble_eq_true rfl) rfl dX4_fillNextCosts_5 ?_
  refine tr_V.iconst (v := (0 : Int32)) dX4_fillNextCosts_8 (by decide) ?_
  refine tr_V.istore_n (i := 1) dX4_fillNextCosts_9 rfl (Nat.le_of_ble_eq_true rfl) rfl ?_
  refine tr_V.loop (σ := Int32 × tr_M) (step := mX4_fillNextCosts_l10) (L := fun s3 => [(0, some (.ref 25)), (1, some (.int s3.1))]) (Mf := fun s3 => s3.2) ?_ ((0 : Int32), c1) ⟨rfl, rfl, trivial⟩
  intro s3
  refine tr_V.iload_n (i := 1) dX4_fillNextCosts_10 rfl rfl ?_
  refine tr_V.bipush (v := (10 : Int32)) dX4_fillNextCosts_11 (by decide) ?_
  refine tr_V.icmp_gt (tgt := 67) dX4_fillNextCosts_13 (by decide) ?_ ?_
  · exact tr_V.vret dX4_fillNextCosts_67 rfl (fun h => h)
  · refine tr_V.iconst (v := (0 : Int32)) dX4_fillNextCosts_16 (by decide) ?_
    refine tr_V.istore_n (i := 2) dX4_fillNextCosts_17 rfl (Nat.le_of_ble_eq_true rfl) rfl ?_
    refine tr_V.loop (σ := Int32 × tr_M) (step := mX4_fillNextCosts_l18 s3) (L := fun s4 => [(0, some (.ref 25)), (1, some (.int s3.1)), (2, some (.int s4.1))]) (Mf := fun s4 => s4.2) ?_ ((0 : Int32), s3.2) ⟨rfl, rfl, rfl, trivial⟩
    intro s4
    refine tr_V.iload_n (i := 2) dX4_fillNextCosts_18 rfl rfl ?_
    refine tr_V.aload_n (i := 0) dX4_fillNextCosts_19 rfl rfl ?_
    refine tr_V.getR (Nat.succ_pos _) fl_X4_12 shC_25 rfl dX4_fillNextCosts_20 ?_
    refine tr_V.getI fl_X4_113 shC_26 rfl dX4_fillNextCosts_23 ?_
    refine tr_V.icmp_ge (tgt := 61) dX4_fillNextCosts_26 (by decide) ?_ ?_
    · refine tr_V.aload_n (i := 0) dX4_fillNextCosts_29 rfl rfl ?_
      refine tr_V.aload_n (i := 0) dX4_fillNextCosts_30 rfl rfl ?_
      refine tr_V.getR (Nat.succ_pos _) fl_X4_12 shC_25 rfl dX4_fillNextCosts_31 ?_
      refine tr_V.iload_n (i := 2) dX4_fillNextCosts_34 rfl rfl ?_
      refine tr_V.iload_n (i := 1) dX4_fillNextCosts_35 rfl rfl ?_
      refine tr_V.bd (fun c5 h6 => ?_)
      refine tr_V.callV (C_X5_barredNextTo 26 isW_26 s4.1 s3.1 s4.2 _ h6) yk_X5_barredNextTo iv_X5_barredNextTo ml_X4_119 shC_26 rfl ⟨rfl, Nat.le_of_ble_eq_true rfl⟩ rfl (Nat.le_of_ble_eq_true rfl) rfl dX4_fillNextCosts_36 ?_
      refine tr_V.iload_n (i := 2) dX4_fillNextCosts_39 rfl rfl ?_
      refine tr_V.callS (C_X4_costOfRule s4.1 s4.2) yk_X4_costOfRule sc_X4_costOfRule ml_X4_171 ⟨rfl, Nat.le_of_ble_eq_true rfl⟩ rfl (Nat.le_of_ble_eq_true rfl) rfl dX4_fillNextCosts_40 ?_
      refine tr_V.aload_n (i := 0) dX4_fillNextCosts_43 rfl rfl ?_
      refine tr_V.getR (Nat.succ_pos _) fl_X4_43 shC_25 rfl dX4_fillNextCosts_44 ?_
      refine tr_V.iload_n (i := 1) dX4_fillNextCosts_47 rfl rfl ?_
      refine tr_V.iconst (v := (0 : Int32)) dX4_fillNextCosts_48 (by decide) ?_
      refine tr_V.callS (C_X4_stateOf s3.1 (0 : Int32) s4.2) yk_X4_stateOf sc_X4_stateOf ml_X4_89 ⟨rfl, Nat.le_of_ble_eq_true rfl⟩ rfl (Nat.le_of_ble_eq_true rfl) rfl dX4_fillNextCosts_49 ?_
      refine tr_V.bd (fun c11 h12 => ?_)
      refine tr_V.callV (C_X4_addCosts c5 (mX4_costOfRule s4.1) 53 (mX4_stateOf s3.1 (0 : Int32)) s4.2 _ h12) yk_X4_addCosts iv_X4_addCosts ml_X4_174 shC_25 rfl ⟨rfl, Nat.le_of_ble_eq_true rfl⟩ rfl (Nat.le_of_ble_eq_true rfl) rfl dX4_fillNextCosts_52 ?_
      refine tr_V.iinc (cst := (1 : Int32)) dX4_fillNextCosts_55 rfl (by decide) rfl ?_
      refine tr_V.goto (tgt := 18) dX4_fillNextCosts_58 (by decide) ?_
      exact tr_V.to (fun h => h) ⟨rfl, rfl, rfl, trivial⟩
    · refine tr_V.iinc (cst := (1 : Int32)) dX4_fillNextCosts_61 rfl (by decide) rfl ?_
      refine tr_V.goto (tgt := 10) dX4_fillNextCosts_64 (by decide) ?_
      exact tr_V.to (fun h => h) ⟨rfl, rfl, trivial⟩
abbrev xX4_fillBehindCosts : tr_X := (cX4_fillBehindCosts, 3, RX4, (Option.none : Option Jvm.ClassFile.FieldType), 3, shC, 81)
theorem cw_X4_fillBehindCosts : Cond.code yX4_fillBehindCosts cX4_fillBehindCosts 3 (Option.none : Option Jvm.ClassFile.FieldType) ∈ tr_tbl := tr_in 1003 (by decide +kernel) rfl
theorem yk_X4_fillBehindCosts : tr_yk yX4_fillBehindCosts (xX4_fillBehindCosts) 1 := ⟨cw_X4_fillBehindCosts, in_X4, ⟨by decide +kernel, by decide +kernel, by decide +kernel⟩, Nat.le_of_ble_eq_true rfl⟩
theorem iv_X4_fillBehindCosts : Cond.instanceMethod yX4_fillBehindCosts ∈ tr_tbl ∧ Cond.selects (yX4_fillBehindCosts).cls yX4_fillBehindCosts yX4_fillBehindCosts ∈ tr_tbl := ⟨tr_in 1002 (by decide +kernel) rfl, tr_in 47 (by decide +kernel) rfl⟩
def mX4_fillBehindCosts_l10 (p1 : Int32) (s3 : Int32 × tr_M) : Option ((Int32 × tr_M) ⊕ (tr_M)) :=
  if s3.1 < (s3.2.1 26 1) then (
    Option.bind (mX5_barredBehind 26 s3.1 p1 s3.2) (fun c4 =>
    Option.bind (mX4_addCosts c4 (mX4_costOfRule s3.1) 52 (0 : Int32) s3.2) (fun c8 =>
    some (.inl ((s3.1 + (1 : Int32)), c8))
    )
    )
  ) else (
    some (.inr s3.2)
  )
def mX4_fillBehindCosts (p1 : Int32) (M : tr_M) : Option (tr_M) :=
  Option.bind (mJ7_fill_53178 shC 52 (0 : Int32) M) (fun c1 =>
  tr_loop (mX4_fillBehindCosts_l10 p1) ((0 : Int32), c1)
  )
set_option maxRecDepth 100000 in
set_option maxHeartbeats 4000000 in
theorem C_X4_fillBehindCosts (p1 : Int32) (M M' : tr_M) (h : mX4_fillBehindCosts p1 M = some M') : tr_I yX4_fillBehindCosts (xX4_fillBehindCosts) [.ref 25, .int p1] M none M' := by
  refine tr_I.of (Z := fun q : tr_M => (none : Option Value) = none ∧ M' = q) pn_X4 rfl gdC (Nat.le_of_ble_eq_true rfl) (fun Wt => ?_) h ⟨rfl, rfl⟩
  unfold mX4_fillBehindCosts
  refine tr_V.aload_n (i := 0) dX4_fillBehindCosts_0 rfl rfl ?_
  refine tr_V.getR (Nat.succ_pos _) fl_X4_40 shC_25 rfl dX4_fillBehindCosts_1 ?_
  refine tr_V.iconst (v := (0 : Int32)) dX4_fillBehindCosts_4 (by decide) ?_
  refine tr_V.bd (fun c1 h2 => ?_)
  refine tr_V.callS (C_J7_fill_53178 shC 81 gdC 52 (0 : Int32) M _ h2) yk_J7_fill_53178 sc_J7_fill_53178 ml_X4_144 ⟨rfl, Nat.le_of_ble_eq_true rfl⟩ rfl (Nat.le_of_ble_eq_true rfl) rfl dX4_fillBehindCosts_5 ?_
  refine tr_V.iconst (v := (0 : Int32)) dX4_fillBehindCosts_8 (by decide) ?_
  refine tr_V.istore_n (i := 2) dX4_fillBehindCosts_9 rfl (Nat.le_of_ble_eq_true rfl) rfl ?_
  refine tr_V.loop (σ := Int32 × tr_M) (step := mX4_fillBehindCosts_l10 p1) (L := fun s3 => [(0, some (.ref 25)), (1, some (.int p1)), (2, some (.int s3.1))]) (Mf := fun s3 => s3.2) ?_ ((0 : Int32), c1) ⟨rfl, rfl, rfl, trivial⟩
  intro s3
  refine tr_V.iload_n (i := 2) dX4_fillBehindCosts_10 rfl rfl ?_
  refine tr_V.aload_n (i := 0) dX4_fillBehindCosts_11 rfl rfl ?_
  refine tr_V.getR (Nat.succ_pos _) fl_X4_12 shC_25 rfl dX4_fillBehindCosts_12 ?_
  refine tr_V.getI fl_X4_113 shC_26 rfl dX4_fillBehindCosts_15 ?_
  refine tr_V.icmp_ge (tgt := 49) dX4_fillBehindCosts_18 (by decide) ?_ ?_
  · refine tr_V.aload_n (i := 0) dX4_fillBehindCosts_21 rfl rfl ?_
    refine tr_V.aload_n (i := 0) dX4_fillBehindCosts_22 rfl rfl ?_
    refine tr_V.getR (Nat.succ_pos _) fl_X4_12 shC_25 rfl dX4_fillBehindCosts_23 ?_
    refine tr_V.iload_n (i := 2) dX4_fillBehindCosts_26 rfl rfl ?_
    refine tr_V.iload_n (i := 1) dX4_fillBehindCosts_27 rfl rfl ?_
    refine tr_V.bd (fun c4 h5 => ?_)
    refine tr_V.callV (C_X5_barredBehind 26 isW_26 s3.1 p1 s3.2 _ h5) yk_X5_barredBehind iv_X5_barredBehind ml_X4_116 shC_26 rfl ⟨rfl, Nat.le_of_ble_eq_true rfl⟩ rfl (Nat.le_of_ble_eq_true rfl) rfl dX4_fillBehindCosts_28 ?_
    refine tr_V.iload_n (i := 2) dX4_fillBehindCosts_31 rfl rfl ?_
    refine tr_V.callS (C_X4_costOfRule s3.1 s3.2) yk_X4_costOfRule sc_X4_costOfRule ml_X4_171 ⟨rfl, Nat.le_of_ble_eq_true rfl⟩ rfl (Nat.le_of_ble_eq_true rfl) rfl dX4_fillBehindCosts_32 ?_
    refine tr_V.aload_n (i := 0) dX4_fillBehindCosts_35 rfl rfl ?_
    refine tr_V.getR (Nat.succ_pos _) fl_X4_40 shC_25 rfl dX4_fillBehindCosts_36 ?_
    refine tr_V.iconst (v := (0 : Int32)) dX4_fillBehindCosts_39 (by decide) ?_
    refine tr_V.bd (fun c8 h9 => ?_)
    refine tr_V.callV (C_X4_addCosts c4 (mX4_costOfRule s3.1) 52 (0 : Int32) s3.2 _ h9) yk_X4_addCosts iv_X4_addCosts ml_X4_174 shC_25 rfl ⟨rfl, Nat.le_of_ble_eq_true rfl⟩ rfl (Nat.le_of_ble_eq_true rfl) rfl dX4_fillBehindCosts_40 ?_
    refine tr_V.iinc (cst := (1 : Int32)) dX4_fillBehindCosts_43 rfl (by decide) rfl ?_
    refine tr_V.goto (tgt := 10) dX4_fillBehindCosts_46 (by decide) ?_
    exact tr_V.to (fun h => h) ⟨rfl, rfl, rfl, trivial⟩
  · exact tr_V.vret dX4_fillBehindCosts_49 rfl (fun h => h)
abbrev xX4_leastBrokenFrom : tr_X := (cX4_leastBrokenFrom, 7, RX4, (some .int), 2, shC, 81)
theorem cw_X4_leastBrokenFrom : Cond.code yX4_leastBrokenFrom cX4_leastBrokenFrom 7 (some .int) ∈ tr_tbl := tr_in 1007 (by decide +kernel) rfl
theorem yk_X4_leastBrokenFrom : tr_yk yX4_leastBrokenFrom (xX4_leastBrokenFrom) 2 := ⟨cw_X4_leastBrokenFrom, in_X4, ⟨by decide +kernel, by decide +kernel, by decide +kernel⟩, Nat.le_of_ble_eq_true rfl⟩
theorem iv_X4_leastBrokenFrom : Cond.instanceMethod yX4_leastBrokenFrom ∈ tr_tbl ∧ Cond.selects (yX4_leastBrokenFrom).cls yX4_leastBrokenFrom yX4_leastBrokenFrom ∈ tr_tbl := ⟨tr_in 1006 (by decide +kernel) rfl, tr_in 48 (by decide +kernel) rfl⟩
def mX4_leastBrokenFrom_l35 (p1 : Int32) (M : tr_M) (v3 : Int32) (s6 : Int32 × Int32) : Option ((Int32 × Int32) ⊕ (Int32)) :=
  if s6.2 < (M.1 26 0) then (
    if ((p1 >>> (s6.2 &&& 31)) &&& (1 : Int32)) = 0 then (
      Option.bind (tr_rd 10 M 52 s6.2) (fun a7 =>
      Option.bind (tr_rd 110 M 53 ((mX4_stateOf v3 (0 : Int32)) + s6.2)) (fun a9 =>
      Option.bind (tr_rd 10240 M 48 (mX4_stateOf (p1 ||| ((1 : Int32) <<< (s6.2 &&& 31))) s6.2)) (fun a13 =>
      some (.inl ((mJ9_min s6.1 ((a7 + a9) + a13)), (s6.2 + (1 : Int32))))
      )
      )
      )
    ) else (
      some (.inl (s6.1, (s6.2 + (1 : Int32))))
    )
  ) else (
    some (.inr s6.1)
  )
def mX4_leastBrokenFrom (p1 : Int32) (p2 : Int32) (M : tr_M) : Option (Int32) :=
  if p1 = (mX5_everything 26 M) then (
    some (0 : Int32)
  ) else (
    Option.bind (show Option (Int32) from
      if p1 = 0 then (
        some (10 : Int32)
      ) else (
        some p2
      )
    ) (fun (v3 : Int32) =>
      tr_loop (mX4_leastBrokenFrom_l35 p1 M v3) ((268435456 : Int32), (0 : Int32))
    )
  )
set_option maxRecDepth 100000 in
set_option maxHeartbeats 4000000 in
theorem C_X4_leastBrokenFrom (p1 : Int32) (p2 : Int32) (M : tr_M) (r : Int32) (h : mX4_leastBrokenFrom p1 p2 M = some r) : tr_I yX4_leastBrokenFrom (xX4_leastBrokenFrom) [.ref 25, .int p1, .int p2] M (some (.int r)) M := by
  refine tr_I.of (Z := fun q : Int32 => (some (.int r) : Option Value) = some (.int q) ∧ M = M) pn_X4 rfl gdC (Nat.le_of_ble_eq_true rfl) (fun Wt => ?_) h ⟨rfl, rfl⟩
  unfold mX4_leastBrokenFrom
  refine tr_V.iload_n (i := 1) dX4_leastBrokenFrom_0 rfl rfl ?_
  refine tr_V.aload_n (i := 0) dX4_leastBrokenFrom_1 rfl rfl ?_
  refine tr_V.getR (Nat.succ_pos _) fl_X4_12 shC_25 rfl dX4_leastBrokenFrom_2 ?_
  refine tr_V.callV (C_X5_everything 26 isW_26 M) yk_X5_everything iv_X5_everything ml_X4_77 shC_26 rfl ⟨rfl, Nat.le_of_ble_eq_true rfl⟩ rfl (Nat.le_of_ble_eq_true rfl) rfl dX4_leastBrokenFrom_5 ?_
  refine tr_V.icmp_ne (tgt := 13) dX4_leastBrokenFrom_8 (by decide) ?_ ?_
  · refine tr_V.iconst (v := (0 : Int32)) dX4_leastBrokenFrom_11 (by decide) ?_
    exact tr_V.iret dX4_leastBrokenFrom_12 rfl (fun h => h)
  · refine tr_V.iload_n (i := 1) dX4_leastBrokenFrom_13 rfl rfl ?_
    refine tr_V.seq (τ := Int32) (pc' := 23) (L := fun v3 => [(0, some (.ref 25)), (1, some (.int p1))]) (S := fun v3 => [.int v3]) (Mf := fun v3 => M) ?_ ?_
    · refine tr_V.if_ne (tgt := 22) dX4_leastBrokenFrom_14 (by decide) ?_ ?_
      · refine tr_V.bipush (v := (10 : Int32)) dX4_leastBrokenFrom_17 (by decide) ?_
        refine tr_V.goto (tgt := 23) dX4_leastBrokenFrom_19 (by decide) ?_
        exact tr_V.to (fun h => h) ⟨rfl, rfl, trivial⟩
      · refine tr_V.iload_n (i := 2) dX4_leastBrokenFrom_22 rfl rfl ?_
        exact tr_V.to (fun h => h) ⟨rfl, rfl, trivial⟩
    · intro v3
      refine tr_V.iconst (v := (0 : Int32)) dX4_leastBrokenFrom_23 (by decide) ?_
      refine tr_V.callS (C_X4_stateOf v3 (0 : Int32) M) yk_X4_stateOf sc_X4_stateOf ml_X4_89 ⟨rfl, Nat.le_of_ble_eq_true rfl⟩ rfl (Nat.le_of_ble_eq_true rfl) rfl dX4_leastBrokenFrom_24 ?_
      refine tr_V.istore_n (i := 3) dX4_leastBrokenFrom_27 rfl (Nat.le_of_ble_eq_true rfl) rfl ?_
      refine tr_V.ldc ct_X4_70 dX4_leastBrokenFrom_28 ?_
      refine tr_V.istore (i := 4) dX4_leastBrokenFrom_30 (Nat.le_of_ble_eq_true rfl) rfl ?_
      refine tr_V.iconst (v := (0 : Int32)) dX4_leastBrokenFrom_32 (by decide) ?_
      refine tr_V.istore (i := 5) dX4_leastBrokenFrom_33 (Nat.le_of_ble_eq_true rfl) rfl ?_
      refine tr_V.loop (σ := Int32 × Int32) (step := mX4_leastBrokenFrom_l35 p1 M v3) (L := fun s6 => [(0, some (.ref 25)), (1, some (.int p1)), (3, some (.int (mX4_stateOf v3 (0 : Int32)))), (4, some (.int s6.1)), (5, some (.int s6.2))]) (Mf := fun s6 => M) ?_ ((268435456 : Int32), (0 : Int32)) ⟨rfl, rfl, rfl, rfl, rfl, trivial⟩
      intro s6
      refine tr_V.iload dX4_leastBrokenFrom_35 rfl ?_
      refine tr_V.aload_n (i := 0) dX4_leastBrokenFrom_37 rfl rfl ?_
      refine tr_V.getR (Nat.succ_pos _) fl_X4_12 shC_25 rfl dX4_leastBrokenFrom_38 ?_
      refine tr_V.getI fl_X4_96 shC_26 rfl dX4_leastBrokenFrom_41 ?_
      refine tr_V.icmp_ge (tgt := 107) dX4_leastBrokenFrom_44 (by decide) ?_ ?_
      · refine tr_V.iload_n (i := 1) dX4_leastBrokenFrom_47 rfl rfl ?_
        refine tr_V.iload dX4_leastBrokenFrom_48 rfl ?_
        refine tr_V.ishr dX4_leastBrokenFrom_50 ?_
        refine tr_V.iconst (v := (1 : Int32)) dX4_leastBrokenFrom_51 (by decide) ?_
        refine tr_V.iand dX4_leastBrokenFrom_52 ?_
        refine tr_V.if_ne (tgt := 101) dX4_leastBrokenFrom_53 (by decide) ?_ ?_
        · refine tr_V.aload_n (i := 0) dX4_leastBrokenFrom_56 rfl rfl ?_
          refine tr_V.getR (Nat.succ_pos _) fl_X4_40 shC_25 rfl dX4_leastBrokenFrom_57 ?_
          refine tr_V.iload dX4_leastBrokenFrom_60 rfl ?_
          refine tr_V.bd (fun a7 h8 => ?_)
          refine tr_V.iald h8 shC_52 dX4_leastBrokenFrom_62 ?_
          refine tr_V.aload_n (i := 0) dX4_leastBrokenFrom_63 rfl rfl ?_
          refine tr_V.getR (Nat.succ_pos _) fl_X4_43 shC_25 rfl dX4_leastBrokenFrom_64 ?_
          refine tr_V.iload_n (i := 3) dX4_leastBrokenFrom_67 rfl rfl ?_
          refine tr_V.iload dX4_leastBrokenFrom_68 rfl ?_
          refine tr_V.iadd dX4_leastBrokenFrom_70 ?_
          refine tr_V.bd (fun a9 h10 => ?_)
          refine tr_V.iald h10 shC_53 dX4_leastBrokenFrom_71 ?_
          refine tr_V.iadd dX4_leastBrokenFrom_72 ?_
          refine tr_V.istore (i := 6) dX4_leastBrokenFrom_73 (Nat.le_of_ble_eq_true rfl) rfl ?_
          refine tr_V.iload dX4_leastBrokenFrom_75 rfl ?_
          refine tr_V.iload dX4_leastBrokenFrom_77 rfl ?_
          refine tr_V.aload_n (i := 0) dX4_leastBrokenFrom_79 rfl rfl ?_
          refine tr_V.getR (Nat.succ_pos _) fl_X4_28 shC_25 rfl dX4_leastBrokenFrom_80 ?_
          refine tr_V.iload_n (i := 1) dX4_leastBrokenFrom_83 rfl rfl ?_
          refine tr_V.iconst (v := (1 : Int32)) dX4_leastBrokenFrom_84 (by decide) ?_
          refine tr_V.iload dX4_leastBrokenFrom_85 rfl ?_
          refine tr_V.ishl dX4_leastBrokenFrom_87 ?_
          refine tr_V.ior dX4_leastBrokenFrom_88 ?_
          refine tr_V.iload dX4_leastBrokenFrom_89 rfl ?_
          refine tr_V.callS (C_X4_stateOf (p1 ||| ((1 : Int32) <<< (s6.2 &&& 31))) s6.2 M) yk_X4_stateOf sc_X4_stateOf ml_X4_89 ⟨rfl, Nat.le_of_ble_eq_true rfl⟩ rfl (Nat.le_of_ble_eq_true rfl) rfl dX4_leastBrokenFrom_91 ?_
          refine tr_V.bd (fun a13 h14 => ?_)
          refine tr_V.iald h14 shC_48 dX4_leastBrokenFrom_94 ?_
          refine tr_V.iadd dX4_leastBrokenFrom_95 ?_
          refine tr_V.mmin ml_X4_125 w_mminS in_J9 w_mminC (Nat.le_of_ble_eq_true rfl) (Nat.le_of_ble_eq_true rfl) dX4_leastBrokenFrom_96 ?_
          refine tr_V.istore (i := 4) dX4_leastBrokenFrom_99 (Nat.le_of_ble_eq_true rfl) rfl ?_
          refine tr_V.iinc (cst := (1 : Int32)) dX4_leastBrokenFrom_101 rfl (by decide) rfl ?_
          refine tr_V.goto (tgt := 35) dX4_leastBrokenFrom_104 (by decide) ?_
          exact tr_V.to (fun h => h) ⟨rfl, rfl, rfl, rfl, rfl, trivial⟩
        · refine tr_V.iinc (cst := (1 : Int32)) dX4_leastBrokenFrom_101 rfl (by decide) rfl ?_
          refine tr_V.goto (tgt := 35) dX4_leastBrokenFrom_104 (by decide) ?_
          exact tr_V.to (fun h => h) ⟨rfl, rfl, rfl, rfl, rfl, trivial⟩
      · refine tr_V.iload dX4_leastBrokenFrom_107 rfl ?_
        exact tr_V.iret dX4_leastBrokenFrom_109 rfl (fun h => h)
abbrev xX4_leastBroken : tr_X := (cX4_leastBroken, 3, RX4, (some .int), 4, shC, 81)
theorem cw_X4_leastBroken : Cond.code yX4_leastBroken cX4_leastBroken 3 (some .int) ∈ tr_tbl := tr_in 988 (by decide +kernel) rfl
theorem yk_X4_leastBroken : tr_yk yX4_leastBroken (xX4_leastBroken) 0 := ⟨cw_X4_leastBroken, in_X4, ⟨by decide +kernel, by decide +kernel, by decide +kernel⟩, Nat.le_of_ble_eq_true rfl⟩
theorem iv_X4_leastBroken : Cond.instanceMethod yX4_leastBroken ∈ tr_tbl ∧ Cond.selects (yX4_leastBroken).cls yX4_leastBroken yX4_leastBroken ∈ tr_tbl := ⟨tr_in 986 (by decide +kernel) rfl, tr_in 987 (by decide +kernel) rfl⟩
def mX4_leastBroken_l23 (s5 : Int32 × tr_M) (s10 : Int32 × tr_M) : Option ((Int32 × tr_M) ⊕ ((Int32 × tr_M) ⊕ (Int32 × tr_M))) :=
  if s10.1 < (mX4_lastsOf s5.1 s10.2) then (
    if (mX4_isState s5.1 s10.1) = 0 then (
      some (.inl ((s10.1 + (1 : Int32)), s10.2))
    ) else (
      Option.bind (mX4_leastBrokenFrom s5.1 s10.1 s10.2) (fun c17 =>
      Option.bind (tr_wr 10240 s10.2 48 (mX4_stateOf s5.1 s10.1) c17) (fun M19 =>
      some (.inl ((s10.1 + (1 : Int32)), M19))
      )
      )
    )
  ) else (
    Option.bind (some (s5.1 + (-1 : Int32))) (fun x21 =>
    some (.inr (.inl (x21, s10.2)))
    )
  )
def mX4_leastBroken_l12  (s5 : Int32 × tr_M) : Option ((Int32 × tr_M) ⊕ (Int32 × tr_M)) :=
  if s5.1 < 0 then (
    Option.bind (tr_rd 10240 s5.2 48 (0 : Int32)) (fun a6 =>
    some (.inr (a6, s5.2))
    )
  ) else (
    Option.bind (mX4_fillBehindCosts s5.1 s5.2) (fun c8 =>
    tr_loop (mX4_leastBroken_l23 s5) ((0 : Int32), c8)
    )
  )
def mX4_leastBroken  (M : tr_M) : Option (Int32 × tr_M) :=
  Option.bind (mX4_fillNextCosts M) (fun c1 =>
  tr_loop (mX4_leastBroken_l12) ((mX5_everything 26 c1), c1)
  )
set_option maxRecDepth 100000 in
set_option maxHeartbeats 4000000 in
theorem C_X4_leastBroken  (M : tr_M) (r : Int32 × tr_M) (h : mX4_leastBroken M = some r) : tr_I yX4_leastBroken (xX4_leastBroken) [.ref 25] M (some (.int r.1)) r.2 := by
  refine tr_I.of (Z := fun q : Int32 × tr_M => (some (.int r.1) : Option Value) = some (.int q.1) ∧ r.2 = q.2) pn_X4 rfl gdC (Nat.le_of_ble_eq_true rfl) (fun Wt => ?_) h ⟨rfl, rfl⟩
  unfold mX4_leastBroken
  refine tr_V.aload_n (i := 0) dX4_leastBroken_0 rfl rfl ?_
  refine tr_V.bd (fun c1 h2 => ?_)
  refine tr_V.callV (C_X4_fillNextCosts M _ h2) yk_X4_fillNextCosts iv_X4_fillNextCosts ml_X4_162 shC_25 rfl ⟨rfl, Nat.le_of_ble_eq_true rfl⟩ rfl (Nat.le_of_ble_eq_true rfl) rfl dX4_leastBroken_1 ?_
  refine tr_V.aload_n (i := 0) dX4_leastBroken_4 rfl rfl ?_
  refine tr_V.getR (Nat.succ_pos _) fl_X4_12 shC_25 rfl dX4_leastBroken_5 ?_
  refine tr_V.callV (C_X5_everything 26 isW_26 c1) yk_X5_everything iv_X5_everything ml_X4_77 shC_26 rfl ⟨rfl, Nat.le_of_ble_eq_true rfl⟩ rfl (Nat.le_of_ble_eq_true rfl) rfl dX4_leastBroken_8 ?_
  refine tr_V.istore_n (i := 1) dX4_leastBroken_11 rfl (Nat.le_of_ble_eq_true rfl) rfl ?_
  refine tr_V.loop (σ := Int32 × tr_M) (step := mX4_leastBroken_l12) (L := fun s5 => [(0, some (.ref 25)), (1, some (.int s5.1))]) (Mf := fun s5 => s5.2) ?_ ((mX5_everything 26 c1), c1) ⟨rfl, rfl, trivial⟩
  intro s5
  refine tr_V.iload_n (i := 1) dX4_leastBroken_12 rfl rfl ?_
  refine tr_V.if_lt (tgt := 68) dX4_leastBroken_13 (by decide) ?_ ?_
  · refine tr_V.aload_n (i := 0) dX4_leastBroken_68 rfl rfl ?_
    refine tr_V.getR (Nat.succ_pos _) fl_X4_28 shC_25 rfl dX4_leastBroken_69 ?_
    refine tr_V.iconst (v := (0 : Int32)) dX4_leastBroken_72 (by decide) ?_
    refine tr_V.bd (fun a6 h7 => ?_)
    refine tr_V.iald h7 shC_48 dX4_leastBroken_73 ?_
    exact tr_V.iret dX4_leastBroken_74 rfl (fun h => h)
  · refine tr_V.aload_n (i := 0) dX4_leastBroken_16 rfl rfl ?_
    refine tr_V.iload_n (i := 1) dX4_leastBroken_17 rfl rfl ?_
    refine tr_V.bd (fun c8 h9 => ?_)
    refine tr_V.callV (C_X4_fillBehindCosts s5.1 s5.2 _ h9) yk_X4_fillBehindCosts iv_X4_fillBehindCosts ml_X4_165 shC_25 rfl ⟨rfl, Nat.le_of_ble_eq_true rfl⟩ rfl (Nat.le_of_ble_eq_true rfl) rfl dX4_leastBroken_18 ?_
    refine tr_V.iconst (v := (0 : Int32)) dX4_leastBroken_21 (by decide) ?_
    refine tr_V.istore_n (i := 2) dX4_leastBroken_22 rfl (Nat.le_of_ble_eq_true rfl) rfl ?_
    refine tr_V.loop (σ := Int32 × tr_M) (step := mX4_leastBroken_l23 s5) (L := fun s10 => [(0, some (.ref 25)), (1, some (.int s5.1)), (2, some (.int s10.1))]) (Mf := fun s10 => s10.2) ?_ ((0 : Int32), c8) ⟨rfl, rfl, rfl, trivial⟩
    intro s10
    refine tr_V.iload_n (i := 2) dX4_leastBroken_23 rfl rfl ?_
    refine tr_V.aload_n (i := 0) dX4_leastBroken_24 rfl rfl ?_
    refine tr_V.iload_n (i := 1) dX4_leastBroken_25 rfl rfl ?_
    refine tr_V.callV (C_X4_lastsOf s5.1 s10.2) yk_X4_lastsOf iv_X4_lastsOf ml_X4_81 shC_25 rfl ⟨rfl, Nat.le_of_ble_eq_true rfl⟩ rfl (Nat.le_of_ble_eq_true rfl) rfl dX4_leastBroken_26 ?_
    refine tr_V.icmp_ge (tgt := 62) dX4_leastBroken_29 (by decide) ?_ ?_
    · refine tr_V.iload_n (i := 1) dX4_leastBroken_32 rfl rfl ?_
      refine tr_V.iload_n (i := 2) dX4_leastBroken_33 rfl rfl ?_
      refine tr_V.callS (C_X4_isState s5.1 s10.1 s10.2) yk_X4_isState sc_X4_isState ml_X4_85 ⟨rfl, Nat.le_of_ble_eq_true rfl⟩ rfl (Nat.le_of_ble_eq_true rfl) rfl dX4_leastBroken_34 ?_
      refine tr_V.if_eq (tgt := 56) dX4_leastBroken_37 (by decide) ?_ ?_
      · refine tr_V.iinc (cst := (1 : Int32)) dX4_leastBroken_56 rfl (by decide) rfl ?_
        refine tr_V.goto (tgt := 23) dX4_leastBroken_59 (by decide) ?_
        exact tr_V.to (fun h => h) ⟨rfl, rfl, rfl, trivial⟩
      · refine tr_V.aload_n (i := 0) dX4_leastBroken_40 rfl rfl ?_
        refine tr_V.getR (Nat.succ_pos _) fl_X4_28 shC_25 rfl dX4_leastBroken_41 ?_
        refine tr_V.iload_n (i := 1) dX4_leastBroken_44 rfl rfl ?_
        refine tr_V.iload_n (i := 2) dX4_leastBroken_45 rfl rfl ?_
        refine tr_V.callS (C_X4_stateOf s5.1 s10.1 s10.2) yk_X4_stateOf sc_X4_stateOf ml_X4_89 ⟨rfl, Nat.le_of_ble_eq_true rfl⟩ rfl (Nat.le_of_ble_eq_true rfl) rfl dX4_leastBroken_46 ?_
        refine tr_V.aload_n (i := 0) dX4_leastBroken_49 rfl rfl ?_
        refine tr_V.iload_n (i := 1) dX4_leastBroken_50 rfl rfl ?_
        refine tr_V.iload_n (i := 2) dX4_leastBroken_51 rfl rfl ?_
        refine tr_V.bd (fun c17 h18 => ?_)
        refine tr_V.callV (C_X4_leastBrokenFrom s5.1 s10.1 s10.2 _ h18) yk_X4_leastBrokenFrom iv_X4_leastBrokenFrom ml_X4_168 shC_25 rfl ⟨rfl, Nat.le_of_ble_eq_true rfl⟩ rfl (Nat.le_of_ble_eq_true rfl) rfl dX4_leastBroken_52 ?_
        refine tr_V.bd (fun M19 h20 => ?_)
        refine tr_V.iast h20 shC_48 dX4_leastBroken_55 ?_
        refine tr_V.iinc (cst := (1 : Int32)) dX4_leastBroken_56 rfl (by decide) rfl ?_
        refine tr_V.goto (tgt := 23) dX4_leastBroken_59 (by decide) ?_
        exact tr_V.to (fun h => h) ⟨rfl, rfl, rfl, trivial⟩
    · refine tr_V.bd (fun x21 h22 => ?_)
      refine tr_V.iincN (cst := (-1 : Int32)) dX4_leastBroken_62 rfl (by decide) rfl h22 ?_
      refine tr_V.goto (tgt := 12) dX4_leastBroken_65 (by decide) ?_
      exact tr_V.to (fun h => h) ⟨rfl, rfl, trivial⟩
